-- THE REFERENCE'S SMALL METHODS
section MLEAF
variable {ρ : Nat × (Nat → Int32)} {d : Nat} {c : Nat × Nat} {R : Nat → Nat → Option Nat} {I : Nat → Nat → Int32} {L : Nat → Nat → Int64} {P : PT} {sd : Nat} {T : TT}
theorem M_has_e (S : Int32) {k : Nat} (hk : k < 32) : EV ρ (d + 1) 3 0 [.int S, .int (nI k)] [] (mk c R I L) = some ([.int (bo (bt S k))], mk c R I L) := by
  rw [bM_has_0]
  by_cases h : bt S k = true
  · rw [if_pos ((hs_b hk S).mpr h), h]; rfl
  · rw [if_neg (fun z => h ((hs_b hk S).mp z)), Bool.eq_false_iff.mpr h]; rfl
theorem M_within_e (a lo hi : Int32) : EV ρ (d + 1) 2 0 [.int a, .int lo, .int hi] [] (mk c R I L) = some ([.int (bo (decide (¬ a < lo ∧ ¬ hi < a)))], mk c R I L) := by
  rw [bM_within_0]
  by_cases h : a < lo
  · simp [h, bo]
  · by_cases h2 : hi < a
    · simp [h, h2, bo]
    · simp [h, h2, bo]
theorem M_devices_e (hP : PM P sd I) : EV ρ (d + 1) 6 0 [.ref 257] [] (mk c R I L) = some ([.int (nI P.1.1)], mk c R I L) := by
  have := hP.1
  rw [bM_devices_0, hP.2.1, pk_mul, zidx_n (by omega) (by decide), hP.2.2.1]
theorem M_drivers_e (hP : PM P sd I) : EV ρ (d + 1) 7 0 [.ref 257] [] (mk c R I L) = some ([.int (nI P.1.2.1)], mk c R I L) := by
  have := hP.1
  rw [bM_drivers_0, hP.2.1, pk_mul, nI_add, zidx_n (by omega) (by decide), hP.2.2.2.1]
theorem M_supplies_e (hP : PM P sd I) : EV ρ (d + 1) 8 0 [.ref 257] [] (mk c R I L) = some ([.int (nI P.1.2.2)], mk c R I L) := by
  have := hP.1
  rw [bM_supplies_0, hP.2.1, pk_mul, nI_add, zidx_n (by omega) (by decide), hP.2.2.2.2.1]
/-- of an int whether it is a number below n -/
def inN (v : Int32) (n : Nat) : Bool := decide (¬ v < 0 ∧ ¬ nI n ≤ v)
theorem inN_iff {v : Int32} {n : Nat} (hn : n < 2 ^ 31) : inN v n = true ↔ ∃ j, j < n ∧ v = nI j := by
  unfold inN
  rw [decide_eq_true_eq]
  constructor
  · rintro ⟨h1, h2⟩
    obtain ⟨j, hj, e, -⟩ := pk_mu h1 h2 hn
    exact ⟨j, hj, e⟩
  · rintro ⟨j, hj, rfl⟩
    exact ⟨nI_pos (by omega), nI_ge hj hn⟩
theorem inN_n {j n : Nat} (h : j < n) (hn : n < 2 ^ 31) : inN (nI j) n = true := (inN_iff hn).mpr ⟨j, h, rfl⟩
theorem wi_in (v : Int32) {n : Nat} (hn : n < 2 ^ 30) : decide (¬ v < nI 0 ∧ ¬ nI n - nI 1 < v) = inN v n := by
  have e : (nI n - nI 1 < v) ↔ nI n ≤ v := by
    have e1 : (nI n - nI 1).toInt = (n : Int) - 1 := pk_sub_toInt (by omega) (by omega)
    rw [Int32.lt_iff_toInt_lt, Int32.le_iff_toInt_le, e1, nI_toInt (by omega)]
    omega
  unfold inN
  rw [decide_eq_decide, e]
  exact Iff.rfl
theorem M_isDevice_e (hP : PM P sd I) (hn : P.1.1 ≤ 12) (v : Int32) : EV ρ (d + 2) 9 0 [.ref 257, .int v] [] (mk c R I L) = some ([.int (bo (inN v P.1.1))], mk c R I L) := by
  rw [bM_isDevice_0, M_devices_e hP, zci, bM_isDevice_6, M_within_e, zci, bM_isDevice_11, zbb, wi_in v (by omega)]
theorem M_isDriver_e (hP : PM P sd I) (hn : P.1.2.1 ≤ 8) (v : Int32) : EV ρ (d + 2) 10 0 [.ref 257, .int v] [] (mk c R I L) = some ([.int (bo (inN v P.1.2.1))], mk c R I L) := by
  rw [bM_isDriver_0, M_drivers_e hP, zci, bM_isDriver_6, M_within_e, zci, bM_isDriver_11, zbb, wi_in v (by omega)]
theorem M_dev_e (hP : PM P sd I) (x : Nat) : EV ρ (d + 1) 36 0 [.ref 257, .int (nI x)] [] (mk c R I L) = some ([.int (nI (12 * sd + x))], mk c R I L) := by
  rw [bM_dev_0, hP.2.1, pk_mul, nI_add]
theorem M_drv_e (hP : PM P sd I) (x : Nat) : EV ρ (d + 1) 37 0 [.ref 257, .int (nI x)] [] (mk c R I L) = some ([.int (nI (8 * sd + x))], mk c R I L) := by
  rw [bM_drv_0, hP.2.1, pk_mul, nI_add]
theorem M_parentOf_e (hP : PM P sd I) (hV : PV P) {x : Nat} (hx : x < P.1.1) : EV ρ (d + 2) 42 0 [.ref 257, .int (nI x)] [] (mk c R I L) = some ([.int (eO (P.2.1 x))], mk c R I L) := by
  have := hP.1
  have := hV.1
  rw [bM_parentOf_0, M_dev_e hP, zci, bM_parentOf_9, zidx_n (by omega) (by decide), (hP.2.2.2.2.2.1 x hx).1]
theorem pa_lt (hV : PV P) {x : Nat} (hx : x < P.1.1) : ∀ k, P.2.1 x = some k → k < 2 ^ 31 := fun k hk => by
  have := hV.2.2.2.1 x hx k hk
  have := hV.1
  omega
theorem M_over_e (hP : PM P sd I) (hV : PV P) (hT : MR T (I 274)) {x : Nat} (hx : x < P.1.1) : EV ρ (d + 3) 44 0 [.ref 257, .int (nI x)] [] (mk c R I L) = some ([.int (T.1.2.2.2 x ||| pbit (P.2.1 x))], mk c R I L) := by
  have := hV.1
  rw [bM_over_0, nI_add, zidx_n (by omega) (by decide), M_parentOf_e hP hV hx, zci, bM_over_14, (hT.2.1 x (by omega)).2.2.2.1]
  cases e : P.2.1 x with
  | none => rfl
  | some k =>
    rw [eO_s, if_neg (nI_pos (pa_lt hV hx k e)), M_parentOf_e hP hV hx, zci, bM_over_23, e]; rfl
theorem M_isLoaded_e (hT : MR T (I 274)) {v : Nat} (hv : v < 32) : EV ρ (d + 2) 40 0 [.ref 257, .int (nI v)] [] (mk c R I L) = some ([.int (bo (bt T.2.2.1.2 v))], mk c R I L) := by
  rw [bM_isLoaded_0, M_has_e _ hv, zci, bM_isLoaded_12, zbb, hT.2.2.1.2.2.2]
def opn (T : TT) (x : Nat) : Bool := decide (T.1.1.1.1 x = 1 ∨ T.1.1.1.1 x = 2)
theorem M_isOpen_e (hT : MR T (I 274)) {x : Nat} (hx : x < 12) (h3 : T.1.1.1.1 x ≤ 3) : EV ρ (d + 1) 70 0 [.ref 257, .int (nI x)] [] (mk c R I L) = some ([.int (bo (opn T x))], mk c R I L) := by
  rw [bM_isOpen_0, nI_add, Nat.zero_add, zidx_n (by omega) (by decide), zidx_n (by omega) (by decide), (hT.1 x hx).1]
  unfold opn
  simp (disch := omega) only [nI_eq]
  by_cases h1 : T.1.1.1.1 x = 1
  · simp [h1, bo]
  · by_cases h2 : T.1.1.1.1 x = 2
    · simp [h2, bo]
    · simp [h1, h2, bo]
/-- the log's rows move on by one -/
def lgF (t : Nat → Int32) (k : Nat) (a b e n : Int32) (m : Nat) : Int32 := if m = 288 then a else if m = 289 then b else if m = 290 then e else if m = 442 then n else if 291 ≤ m ∧ m ≤ 288 + k then t (m - 3) else t m
theorem M_logs_l (a b e n : Int32) : ∀ (k : Nat) (t : Nat → Int32), k + 2 < 150 → EV ρ (d + 1) 45 38 [.ref 257, .int a, .int b, .int e, .int n, .int (nI (k + 2))] [] (mk c R (va_up I 274 t) L) = some ([], mk c R (va_up I 274 (lgF t (k + 2) a b e n)) L) := by
  intro k
  induction k with
  | zero =>
    intro t _
    rw [bM_logs_38, if_pos (nI_le (by omega) (by omega)), bM_logs_83, bM_logs_92, bM_logs_101, bM_logs_111, z2_u, z2_u, z2_u, z2_u]
    congr 4
    funext m
    unfold lgF va_up
    split
    · subst m; simp
    · split
      · subst m; simp
      · split
        · subst m; simp
        · split
          · subst m; simp
          · repeat rw [if_neg (by omega)]
  | succ k ih =>
    intro t hk
    rw [bM_logs_38, if_neg (nI_ge (by omega) (by omega)), nI_add, pk_sub (by omega), zidx_n (by omega) (by decide), zidx_n (by omega) (by decide), bM_logs_68, z2_u, va_s, show k + 1 + 2 = (k + 2) + 1 from rfl, pk_m1, ih _ (by omega)]
    congr 4
    funext m
    unfold lgF va_up
    split
    · rfl
    · split
      · rfl
      · split
        · rfl
        · split
          · rfl
          · by_cases h : 291 ≤ m ∧ m ≤ 288 + (k + 2 + 1)
            · rw [if_pos h]
              by_cases h2 : m = 288 + (k + 2 + 1)
              · rw [if_neg (by omega), if_pos h2]
                congr 1
                omega
              · rw [if_pos (by omega), if_neg (by omega)]
            · rw [if_neg h, if_neg (by omega), if_neg (by omega)]
def tLog (T : TT) (a b e : Int32) : TT := u_log T (((a, b, e) :: T.2.1.2.2).take 50)
theorem take_50 {l : List (Int32 × Int32 × Int32)} {x : Int32 × Int32 × Int32} (h : l.length ≤ 50) : ((x :: l).take 50).length = (if l.length < 50 then l.length + 1 else 50) := by
  rw [List.length_take, List.length_cons]
  split <;> omega
theorem M_logs_e (hT : MR T (I 274)) (hb : ∀ y ∈ T.1.2.2.1, y < 12) (a b e : Int32) : ∃ s, EV ρ (d + 1) 45 0 [.ref 257, .int a, .int b, .int e, zU, zU] [] (mk c R I L) = some ([], mk c R (va_up I 274 s) L) ∧ MR (tLog T a b e) s := by
  obtain ⟨h1, h2, ⟨h3, h4, h5, h6⟩, h7, h8, h9, h10⟩ := hT
  have hl := h8.2.1
  obtain ⟨k, hk, hn⟩ : ∃ k, k + 3 = 3 * (if T.2.1.2.2.length < 50 then T.2.1.2.2.length + 1 else 50) ∧ EV ρ (d + 1) 45 0 [.ref 257, .int a, .int b, .int e, zU, zU] [] (mk c R I L) = EV ρ (d + 1) 45 38 [.ref 257, .int a, .int b, .int e, .int (nI (if T.2.1.2.2.length < 50 then T.2.1.2.2.length + 1 else 50)), .int (nI (k + 2))] [] (mk c R I L) := by
    refine ⟨3 * (if T.2.1.2.2.length < 50 then T.2.1.2.2.length + 1 else 50) - 3, by split <;> omega, ?_⟩
    rw [bM_logs_0, h8.1]
    by_cases g : T.2.1.2.2.length < 50
    · rw [if_neg (nI_ge g (by decide)), if_pos g, nI_add, pk_mul, pk_sub (by omega)]
      congr 8
    · rw [if_pos (nI_le (by omega) (by omega)), if_neg g, pk_mul, pk_sub (by omega)]
  generalize hN : (if T.2.1.2.2.length < 50 then T.2.1.2.2.length + 1 else 50) = N at hk hn
  have hN5 : N ≤ 50 := by rw [← hN]; split <;> omega
  refine ⟨lgF (I 274) (k + 2) a b e (nI N), ?_, ?_⟩
  · rw [hn]
    have := M_logs_l (ρ := ρ) (d := d) (c := c) (R := R) (I := I) (L := L) a b e (nI N) k (I 274) (by omega)
    rw [va_e] at this
    exact this
  · have hf : ∀ m, m < 288 ∨ (438 ≤ m ∧ m ≠ 442) → lgF (I 274) (k + 2) a b e (nI N) m = I 274 m := fun m hm => by
      unfold lgF
      rw [if_neg (by omega), if_neg (by omega), if_neg (by omega), if_neg (by omega), if_neg (by omega)]
    have htk : ((((a, b, e) :: T.2.1.2.2).take 50)).length = N := by rw [take_50 hl, hN]
    refine ⟨fun y hy => ?_, fun y hy => ?_, ⟨fun j hj => ?_, fun j hj => ?_, ?_, ?_⟩, RowM_to h7 (fun k g1 g2 => hf k (by omega)) (hf _ (by omega)), ⟨?_, ?_, fun j z hj => ?_⟩, StM_72 hb h9 (fun k g1 g2 => hf k (by omega)) (hf _ (by omega)), fun y hy => TkM_to (h10 y hy) hy (fun k g1 g2 => hf k (by omega))⟩
    · rw [hf _ (by omega), hf _ (by omega)]; exact h1 y hy
    · rw [hf _ (by omega), hf _ (by omega), hf _ (by omega), hf _ (by omega), hf _ (by omega)]; exact h2 y hy
    · rw [hf _ (by omega)]; exact h3 j hj
    · rw [hf _ (by omega)]; exact h4 j hj
    · rw [hf _ (by omega)]; exact h5
    · rw [hf _ (by omega)]; exact h6
    · show lgF (I 274) (k + 2) a b e (nI N) 442 = nI ((((a, b, e) :: T.2.1.2.2).take 50)).length
      rw [htk]; rfl
    · show ((((a, b, e) :: T.2.1.2.2).take 50)).length ≤ 50
      rw [htk]; exact hN5
    · have hj : (((a, b, e) :: T.2.1.2.2).take 50)[j]? = some z := hj
      have hjl : j < N := by rw [← htk]; exact (List.getElem?_eq_some_iff.mp hj).1
      cases j with
      | zero =>
        simp at hj
        subst hj
        exact ⟨rfl, rfl, rfl⟩
      | succ j =>
        rw [List.getElem?_take_of_lt (by omega), List.getElem?_cons_succ] at hj
        have := h8.2.2 j z hj
        unfold lgF
        rw [if_neg (by omega), if_neg (by omega), if_neg (by omega), if_neg (by omega), if_pos (by omega), if_neg (by omega), if_neg (by omega), if_neg (by omega), if_neg (by omega), if_pos (by omega), if_neg (by omega), if_neg (by omega), if_neg (by omega), if_neg (by omega), if_pos (by omega)]
        rw [show 288 + 3 * (j + 1) - 3 = 288 + 3 * j by omega, show 289 + 3 * (j + 1) - 3 = 289 + 3 * j by omega, show 290 + 3 * (j + 1) - 3 = 290 + 3 * j by omega]
        exact this
end MLEAF
