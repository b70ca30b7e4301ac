-- WHO IS ABOVE: two ways to close a set
noncomputable def sO (p : Nat → Prop) : Int32 := bitsL ((List.range 32).filter (fun j => @decide (p j) (Classical.propDecidable _)))
theorem bt_sO {p : Nat → Prop} {j : Nat} (hj : j < 32) : bt (sO p) j = true ↔ p j := by
  unfold sO
  rw [bt_bits (fun k hk => List.mem_range.mp (List.mem_filter.mp hk).1), decide_eq_true_eq, List.mem_filter, List.mem_range]
  simp [hj]
def ov (P : PT) (T : TT) (x : Nat) : Int32 := T.1.2.2.2 x ||| pbit (P.2.1 x)
def ovr (P : PT) (T : TT) (a b : Nat) : Prop := a < P.1.1 ∧ bt (ov P T a) b = true
noncomputable def abv (P : PT) (T : TT) (x : Nat) : Int32 := sO (Relation.TransGen (ovr P T) x)
theorem abv_of {P : PT} {T : TT} {x : Nat} {S : Int32} (hx : x < P.1.1) (h1 : ∀ j, bt (ov P T x) j = true → bt S j = true) (h2 : ∀ k, k < P.1.1 → bt S k = true → ∀ j, bt (ov P T k) j = true → bt S j = true) (h3 : ∀ j, bt S j = true → Relation.TransGen (ovr P T) x j) : S = abv P T x := by
  refine b_ext fun i hi => Bool.eq_iff_iff.mpr ?_
  unfold abv
  rw [bt_sO hi]
  refine ⟨h3 i, fun h => ?_⟩
  have : ∀ j, Relation.TransGen (ovr P T) x j → bt S j = true := fun j hj => by
    induction hj with
    | single h => exact h1 _ h.2
    | tail _ h ih => exact h2 _ h.1 ih _ h.2
  exact this i h
/-- how many bits below n -/
def cb (S : Int32) : Nat → Nat
  | 0 => 0
  | n + 1 => cb S n + (if bt S n then 1 else 0)
theorem cb_le (S : Int32) : ∀ n, cb S n ≤ n
  | 0 => Nat.le_refl _
  | n + 1 => by
    have := cb_le S n
    unfold cb
    split <;> omega
theorem cb_mono {S U : Int32} (h : ∀ j, bt S j = true → bt U j = true) : ∀ n, cb S n ≤ cb U n
  | 0 => Nat.le_refl _
  | n + 1 => by
    have := cb_mono h n
    have := h n
    unfold cb
    split
    · rw [if_pos (h n (by assumption))]; omega
    · split <;> omega
theorem cb_lt {S U : Int32} (h : ∀ j, bt S j = true → bt U j = true) {k : Nat} (h1 : bt S k = false) (h2 : bt U k = true) : ∀ n, k < n → cb S n < cb U n
  | 0, hk => by omega
  | n + 1, hk => by
    unfold cb
    by_cases e : k = n
    · subst e
      have := cb_mono h k
      rw [h1, h2]
      simp
      omega
    · have := cb_lt h h1 h2 n (by omega)
      split
      · rw [if_pos (h n (by assumption))]; omega
      · split <;> omega
theorem cb_all {S : Int32} : ∀ n, cb S n = n → ∀ j, j < n → bt S j = true
  | 0, _, j, hj => by omega
  | n + 1, h, j, hj => by
    have h1 := cb_le S n
    unfold cb at h
    split at h
    · rename_i h2
      by_cases e : j = n
      · subst e; exact h2
      · exact cb_all n (by omega) j (by omega)
    · omega
theorem cb_pos {S : Int32} {k : Nat} (h : bt S k = true) : ∀ n, k < n → 0 < cb S n
  | 0, hk => by omega
  | n + 1, hk => by
    unfold cb
    by_cases e : k = n
    · subst e; rw [h]; simp
    · have := cb_pos h n (by omega)
      omega
/-- all that stands in the sets is below 12 -/
def ovB (P : PT) (T : TT) : Prop := ∀ a, a < P.1.1 → ∀ j, bt (ov P T a) j = true → j < 12
section ABOVE
variable {ρ : Nat × (Nat → Int32)} {d : Nat} {c : Nat × Nat} {R : Nat → Nat → Option Nat} {I : Nat → Nat → Int32} {L : Nat → Nat → Int64} {P : PT} {sd : Nat} {T : TT}
def MX (P : PT) (sd : Nat) (T : TT) (I : Nat → Nat → Int32) : Prop := PV P ∧ PM P sd I ∧ MR T (I 274)
def CX (P : PT) (b p : Nat) (T : TT) (R : Nat → Nat → Option Nat) (I : Nat → Nat → Int32) : Prop := isB b ∧ PV P ∧ R b 0 = some p ∧ PC P p R I ∧ CR b T I
/-- a pass of the reference -/
def aP (P : PT) (T : TT) : Nat → Nat → Int32 → Int32
  | 0, _, S => S
  | n + 1, k, S => aP P T n (k + 1) (if bt S k then S ||| ov P T k else S)
theorem aP_in (P : PT) (T : TT) : ∀ (n k : Nat) (S : Int32) (j : Nat), bt S j = true → bt (aP P T n k S) j = true
  | 0, _, S, j, h => h
  | n + 1, k, S, j, h => by
    unfold aP
    refine aP_in P T n _ _ j ?_
    split
    · rw [b_or, h]; rfl
    · exact h
theorem aP_out {P : PT} {T : TT} {Q : Nat → Prop} (hQ : ∀ k j, k < P.1.1 → Q k → bt (ov P T k) j = true → Q j) : ∀ (n k : Nat) (S : Int32), k + n ≤ P.1.1 → (∀ j, bt S j = true → Q j) → ∀ j, bt (aP P T n k S) j = true → Q j
  | 0, _, S, _, h => h
  | n + 1, k, S, hk, h => by
    unfold aP
    refine aP_out hQ n _ _ (by omega) ?_
    split
    · rename_i hb
      intro j hj
      rw [b_or, Bool.or_eq_true] at hj
      rcases hj with hj | hj
      · exact h j hj
      · exact hQ k j (by omega) (h k hb) hj
    · exact h
theorem aP_cl {P : PT} {T : TT} : ∀ (n k : Nat) (S : Int32), (∀ j, bt (aP P T n k S) j = true → bt S j = true) → ∀ m, k ≤ m → m < k + n → bt S m = true → ∀ j, bt (ov P T m) j = true → bt S j = true
  | 0, _, S, _, m, h1, h2, _ => by omega
  | n + 1, k, S, h, m, h1, h2, hm => by
    intro j hj
    unfold aP at h
    by_cases e : m = k
    · subst e
      rw [if_pos hm] at h
      refine h j (aP_in P T n _ _ j ?_)
      rw [b_or, hj, Bool.or_true]
    · have h3 : ∀ j, bt (aP P T n (k + 1) S) j = true → bt S j = true := by
        by_cases hb : bt S k = true
        · rw [if_pos hb] at h
          have e2 : S ||| ov P T k = S := by
            refine b_ext fun i hi => ?_
            rw [b_or]
            cases g : bt (ov P T k) i with
            | false => simp
            | true =>
              have := h i (aP_in P T n _ _ i (by rw [b_or, g, Bool.or_true]))
              simp [this]
          rw [e2] at h
          exact h
        · rw [if_neg hb] at h
          exact h
      exact aP_cl n (k + 1) S h3 m (by omega) (by omega) hm j hj
theorem aP_id {P : PT} {T : TT} : ∀ (n k : Nat) (S : Int32), (∀ m, k ≤ m → m < k + n → bt S m = true → ∀ j, bt (ov P T m) j = true → bt S j = true) → aP P T n k S = S
  | 0, _, _, _ => rfl
  | n + 1, k, S, h => by
    unfold aP
    have e : (if bt S k then S ||| ov P T k else S) = S := by
      split
      · rename_i hb
        refine b_ext fun i hi => ?_
        rw [b_or]
        cases g : bt (ov P T k) i with
        | false => simp
        | true => simp [h k (by omega) (by omega) hb i g]
      · rfl
    rw [e]
    exact aP_id n (k + 1) S (fun m h1 h2 => h m (by omega) (by omega))
theorem M_above_i (h : MX P sd T I) (n v3 : Nat) : ∀ (m k : Nat) (S : Int32), k + m = P.1.1 → EV ρ (d + 4) 43 17 [.ref 257, zU, .int S, .int (nI v3), .int (nI k)] [] (mk c R I L) = EV ρ (d + 4) 43 8 [.ref 257, zU, .int (aP P T m k S), .int (nI (v3 + 1)), zU] [] (mk c R I L) := by
  obtain ⟨hV, hP, hT⟩ := h
  have h12 := hV.1
  intro m
  induction m with
  | zero =>
    intro k S hk
    rw [bM_above_17, M_devices_e hP, zci, bM_above_23, if_pos (nI_le (by omega) (by omega)), nI_add]
    rfl
  | succ m ih =>
    intro k S hk
    rw [bM_above_17, M_devices_e hP, zci, bM_above_23, if_neg (nI_ge (by omega) (by omega)), M_has_e _ (by omega), zci, bM_above_32, nI_add]
    unfold aP
    cases hb : bt S k with
    | false => rw [if_pos (by decide), ih (k + 1) _ (by omega)]; rfl
    | true => rw [if_neg (by decide), M_over_e hP hV hT (by omega), zci, bM_above_42, nI_add, ih (k + 1) _ (by omega)]; rfl
def aPs (P : PT) (T : TT) : Nat → Int32 → Int32
  | 0, S => S
  | n + 1, S => aPs P T n (aP P T P.1.1 0 S)
theorem aPs_id {P : PT} {T : TT} {S : Int32} (h : aP P T P.1.1 0 S = S) : ∀ n, aPs P T n S = S
  | 0 => rfl
  | n + 1 => by
    unfold aPs
    rw [h]
    exact aPs_id h n
theorem aPs_in (P : PT) (T : TT) : ∀ (n : Nat) (S : Int32) (j : Nat), bt S j = true → bt (aPs P T n S) j = true
  | 0, _, _, h => h
  | n + 1, S, j, h => aPs_in P T n _ j (aP_in P T _ _ _ j h)
theorem aPs_out {P : PT} {T : TT} {Q : Nat → Prop} (hQ : ∀ k j, k < P.1.1 → Q k → bt (ov P T k) j = true → Q j) : ∀ (n : Nat) (S : Int32), (∀ j, bt S j = true → Q j) → ∀ j, bt (aPs P T n S) j = true → Q j
  | 0, _, h => h
  | n + 1, S, h => aPs_out hQ n _ (aP_out hQ _ _ _ (by omega) h)
/-- in twelve passes all is closed -/
theorem aPs_cl {P : PT} {T : TT} (h12 : P.1.1 ≤ 12) (hB : ovB P T) : ∀ (n : Nat) (S : Int32), (∀ j, bt S j = true → j < 12) → 13 ≤ cb S 12 + n → aP P T P.1.1 0 (aPs P T n S) = aPs P T n S
  | 0, S, hS, h => by
    have := cb_le S 12
    omega
  | n + 1, S, hS, h => by
    by_cases e : ∀ j, bt (aP P T P.1.1 0 S) j = true → bt S j = true
    · have e2 : aP P T P.1.1 0 S = S := aP_id _ _ _ (aP_cl _ _ _ e)
      rw [aPs_id e2, e2]
    · obtain ⟨k, hk⟩ := Classical.not_forall.mp e
      obtain ⟨hk1, hk2⟩ := Classical.not_imp.mp hk
      have hS2 : ∀ j, bt (aP P T P.1.1 0 S) j = true → j < 12 := aP_out (fun a j ha _ hj => hB a ha j hj) _ _ _ (by omega) hS
      have := cb_lt (aP_in P T P.1.1 0 S) (Bool.eq_false_iff.mpr hk2) hk1 12 (hS2 k hk1)
      exact aPs_cl h12 hB n _ hS2 (by omega)
theorem M_above_o (h : MX P sd T I) : ∀ (n v3 : Nat) (S : Int32), v3 + n = 12 → EV ρ (d + 4) 43 8 [.ref 257, zU, .int S, .int (nI v3), zU] [] (mk c R I L) = some ([.int (aPs P T n S)], mk c R I L) := by
  intro n
  induction n with
  | zero =>
    intro v3 S hv
    rw [bM_above_8, if_pos (nI_le (by omega) (by omega))]
    rfl
  | succ n ih =>
    intro v3 S hv
    rw [bM_above_8, if_neg (nI_ge (by omega) (by omega)), M_above_i h n v3 P.1.1 0 S (by omega), ih (v3 + 1) _ (by omega)]
    rfl
theorem M_above_e (h : MX P sd T I) (hB : ovB P T) {x : Nat} (hx : x < P.1.1) : EV ρ (d + 4) 43 0 [.ref 257, .int (nI x), zU, zU, zU] [] (mk c R I L) = some ([.int (abv P T x)], mk c R I L) := by
  have h12 := h.1.1
  rw [bM_above_0, M_over_e h.2.1 h.1 h.2.2 hx, zci, bM_above_5, M_above_o h 12 0 _ rfl]
  have e : aPs P T 12 (ov P T x) = abv P T x := by
    have hcl : aP P T P.1.1 0 (aPs P T 12 (ov P T x)) = aPs P T 12 (ov P T x) := by
      by_cases e : ∃ j, bt (ov P T x) j = true
      · obtain ⟨j, hj⟩ := e
        have := cb_pos hj 12 (hB x hx j hj)
        exact aPs_cl h12 hB 12 _ (hB x hx) (by omega)
      · have e2 : aP P T P.1.1 0 (ov P T x) = ov P T x := aP_id _ _ _ (fun m _ _ hm => absurd ⟨m, hm⟩ e)
        rw [aPs_id e2, e2]
    refine abv_of hx (fun j hj => aPs_in P T 12 _ j hj) (fun k hk hk2 j hj => ?_) (fun j hj => ?_)
    · exact aP_cl P.1.1 0 _ (fun i hi => by rw [hcl] at hi; exact hi) k (by omega) (by omega) hk2 j hj
    · exact aPs_out (Q := Relation.TransGen (ovr P T) x) (fun k j hk hq hj => Relation.TransGen.tail hq ⟨hk, hj⟩) 12 _ (fun j hj => Relation.TransGen.single ⟨hx, hj⟩) j hj
  rw [show T.1.2.2.2 x ||| pbit (P.2.1 x) = ov P T x from rfl, e]
/-- what lies behind a set -/
def nx (P : PT) (T : TT) (F : Int32) : Nat → Nat → Int32 → Int32
  | 0, _, N => N
  | n + 1, k, N => nx P T F n (k + 1) (if bt F k then N ||| ov P T k else N)
theorem nx_b {P : PT} {T : TT} {F : Int32} {j : Nat} : ∀ (n k : Nat) (N : Int32), bt (nx P T F n k N) j = true ↔ bt N j = true ∨ ∃ m, k ≤ m ∧ m < k + n ∧ bt F m = true ∧ bt (ov P T m) j = true
  | 0, k, N => by
    unfold nx
    constructor
    · exact Or.inl
    · rintro (h | ⟨m, h1, h2, -⟩)
      · exact h
      · omega
  | n + 1, k, N => by
    unfold nx
    rw [nx_b n (k + 1)]
    by_cases hb : bt F k = true
    · rw [if_pos hb, b_or, Bool.or_eq_true]
      constructor
      · rintro ((h | h) | ⟨m, h1, h2, h3⟩)
        · exact Or.inl h
        · exact Or.inr ⟨k, by omega, by omega, hb, h⟩
        · exact Or.inr ⟨m, by omega, by omega, h3⟩
      · rintro (h | ⟨m, h1, h2, h3, h4⟩)
        · exact Or.inl (Or.inl h)
        · by_cases e : m = k
          · subst e; exact Or.inl (Or.inr h4)
          · exact Or.inr ⟨m, by omega, by omega, h3, h4⟩
    · rw [if_neg hb]
      constructor
      · rintro (h | ⟨m, h1, h2, h3⟩)
        · exact Or.inl h
        · exact Or.inr ⟨m, by omega, by omega, h3⟩
      · rintro (h | ⟨m, h1, h2, h3, h4⟩)
        · exact Or.inl h
        · by_cases e : m = k
          · subst e; exact absurd h3 hb
          · exact Or.inr ⟨m, by omega, by omega, h3, h4⟩
variable {b p : Nat}
theorem Ben_above_i (h : CX P b p T R I) (U F : Int32) (v4 : Nat) : ∀ (m k : Nat) (N : Int32), k + m = P.1.1 → EV ρ (d + 1) 181 43 [.ref b, zU, .int U, .int F, .int (nI v4), .int N, .int (nI k)] [] (mk c R I L) = EV ρ (d + 1) 181 22 [.ref b, zU, .int U, .int (nx P T F m k N &&& (U ^^^ (-1))), .int (nI (v4 + 1)), zU, zU] [] (mk c R I L) := by
  obtain ⟨hb, hV, hR, hC, hT⟩ := h
  have h12 := hV.1
  intro m
  induction m with
  | zero =>
    intro k N hk
    rw [bBen_above_43, zob (xb_o hb), hR, zrs, zob (xp_o hC.1), hC.2.1, if_pos (nI_le (by omega) (by omega)), nI_add]
    rfl
  | succ m ih =>
    intro k N hk
    rw [bBen_above_43, zob (xb_o hb), hR, zrs, zob (xp_o hC.1), hC.2.1, if_neg (nI_ge (by omega) (by omega)), nI_add]
    unfold nx
    by_cases hk2 : bt F k = true
    · rw [if_pos ((hs_b (by omega) F).mpr hk2), zob (xb_o hb), xb_F8 hb, zrs, zar (xb_a7 hb), zidx_n (by omega) (by decide), zob (xb_o hb), zrs, zob (xp_o hC.1), xp_F7 hC.1, zrs, zar (xp_a5 hC.1), zidx_n (by omega) (by decide), ih (k + 1) _ (by omega), (hT.2.1 k (by omega)).2.2.1, (hC.2.2.2.2.1 k (by omega)).2.1, if_pos hk2]
      rfl
    · rw [if_neg (fun z => hk2 ((hs_b (by omega) F).mp z)), ih (k + 1) _ (by omega), if_neg hk2]
theorem Ben_above_o (h : CX P b p T R I) (hB : ovB P T) {x : Nat} (hx : x < P.1.1) : ∀ (n v4 : Nat) (U F : Int32), v4 + n = 12 → v4 ≤ cb U 12 → (∀ j, bt F j = true → bt U j = false) → (∀ j, bt (ov P T x) j = true → bt U j = true ∨ bt F j = true) → (∀ k, k < P.1.1 → bt U k = true → ∀ j, bt (ov P T k) j = true → bt U j = true ∨ bt F j = true) → (∀ j, bt U j = true ∨ bt F j = true → j < 12 ∧ Relation.TransGen (ovr P T) x j) →
    EV ρ (d + 1) 181 22 [.ref b, zU, .int U, .int F, .int (nI v4), zU, zU] [] (mk c R I L) = some ([.int (abv P T x)], mk c R I L) := by
  intro n
  have h12 := h.2.1.1
  induction n with
  | zero =>
    intro v4 U F hv hc hd h1 h2 h3
    rw [bBen_above_22, if_pos (nI_le (by omega) (by omega))]
    have hall := cb_all (S := U) 12 (by have := cb_le U 12; omega)
    have hF : ∀ j, bt F j = true → bt U j = true := fun j hj => hall j (h3 j (Or.inr hj)).1
    have hF0 : ∀ j, ¬ bt F j = true := fun j hj => by
      have := hd j hj
      rw [hF j hj] at this
      cases this
    rw [abv_of hx (fun j hj => (h1 j hj).elim id (fun z => absurd z (hF0 j))) (fun k hk hk2 j hj => (h2 k hk hk2 j hj).elim id (fun z => absurd z (hF0 j))) (fun j hj => (h3 j (Or.inl hj)).2)]
  | succ n ih =>
    intro v4 U F hv hc hd h1 h2 h3
    rw [bBen_above_22, if_neg (nI_ge (by omega) (by omega))]
    by_cases e : F = 0
    · rw [if_pos e]
      have hF0 : ∀ j, ¬ bt F j = true := fun j hj => by
        rw [e, b_0] at hj
        cases hj
      rw [abv_of hx (fun j hj => (h1 j hj).elim id (fun z => absurd z (hF0 j))) (fun k hk hk2 j hj => (h2 k hk hk2 j hj).elim id (fun z => absurd z (hF0 j))) (fun j hj => (h3 j (Or.inl hj)).2)]
    · rw [if_neg e, Ben_above_i h _ _ _ P.1.1 0 _ (by omega)]
      obtain ⟨k, hk⟩ : ∃ k, bt F k = true := Classical.byContradiction fun z => e (b_ext fun i hi => by
        rw [b_0]
        exact Bool.eq_false_iff.mpr (fun y => z ⟨i, y⟩))
      have hU : ∀ j, bt (U ||| F) j = true ↔ bt U j = true ∨ bt F j = true := fun j => by rw [b_or, Bool.or_eq_true]
      have hN : ∀ j, bt (nx P T F P.1.1 0 (nI 0) &&& ((U ||| F) ^^^ (-1))) j = true ↔ (∃ m, m < P.1.1 ∧ bt F m = true ∧ bt (ov P T m) j = true) ∧ ¬ bt (U ||| F) j = true := fun j => by
        by_cases hj : j < 32
        · rw [b_and, Bool.and_eq_true, nx_b, b_xor, b_m1 j hj]
          have e0 : bt (nI 0) j = false := b_0 j
          rw [e0]
          constructor
          · rintro ⟨h4 | ⟨m, h4, h5, h6⟩, h7⟩
            · cases h4
            · exact ⟨⟨m, by omega, h6⟩, by simpa using h7⟩
          · rintro ⟨⟨m, h4, h5⟩, h7⟩
            exact ⟨Or.inr ⟨m, by omega, by omega, h5⟩, by simpa using h7⟩
        · constructor
          · intro z
            rw [b_big (by omega)] at z
            cases z
          · rintro ⟨⟨m, h4, h5, h6⟩, -⟩
            rw [b_big (by omega)] at h6
            cases h6
      have hcb := cb_lt (S := U) (U := U ||| F) (fun j hj => (hU j).mpr (Or.inl hj)) (hd k hk) ((hU k).mpr (Or.inr hk)) 12 (h3 k (Or.inr hk)).1
      refine ih (v4 + 1) _ _ (by omega) (by omega) (fun j hj => Bool.eq_false_iff.mpr ((hN j).mp hj).2) (fun j hj => Or.inl ((hU j).mpr (h1 j hj))) (fun m hm hm2 j hj => ?_) (fun j hj => ?_)
      · by_cases hj2 : bt (U ||| F) j = true
        · exact Or.inl hj2
        · rcases (hU m).mp hm2 with h4 | h4
          · exact Or.inl ((hU j).mpr (h2 m hm h4 j hj))
          · exact Or.inr ((hN j).mpr ⟨⟨m, hm, h4, hj⟩, hj2⟩)
      · rcases hj with hj | hj
        · exact h3 j ((hU j).mp hj)
        · obtain ⟨⟨m, hm, h4, h5⟩, -⟩ := (hN j).mp hj
          exact ⟨hB m hm j h5, Relation.TransGen.tail (h3 m (Or.inr h4)).2 ⟨hm, h5⟩⟩
theorem Ben_above_e (h : CX P b p T R I) (hB : ovB P T) {x : Nat} (hx : x < P.1.1) : EV ρ (d + 1) 181 0 [.ref b, .int (nI x), zU, zU, zU, zU, zU] [] (mk c R I L) = some ([.int (abv P T x)], mk c R I L) := by
  have h' := h
  obtain ⟨hb, hV, hR, hC, hT⟩ := h
  have h12 := hV.1
  rw [bBen_above_0, zob (xb_o hb), xb_F8 hb, zrs, zar (xb_a7 hb), zidx_n (by omega) (by decide), zob (xb_o hb), hR, zrs, zob (xp_o hC.1), xp_F7 hC.1, zrs, zar (xp_a5 hC.1), zidx_n (by omega) (by decide), (hT.2.1 x (by omega)).2.2.1, (hC.2.2.2.2.1 x hx).2.1]
  have e0 : ∀ j, bt (nI 0) j = false := b_0
  exact Ben_above_o h' hB hx 12 0 _ (ov P T x) rfl (Nat.zero_le _) (fun j _ => e0 j) (fun j hj => Or.inr hj) (fun k _ hk => by rw [e0] at hk; cases hk) (fun j hj => by
    rcases hj with hj | hj
    · rw [e0] at hj; cases hj
    · exact ⟨hB x hx j hj, Relation.TransGen.single ⟨hx, hj⟩⟩)
end ABOVE
