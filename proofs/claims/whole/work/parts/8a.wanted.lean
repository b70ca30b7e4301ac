-- WANTED: on the pure state and in the reference
noncomputable def tLds (P : PT) (l : List Nat) (T : TT) : TT := l.foldl (tLoad P) T
/-- the drivers of a set, the lowest first -/
def sL (n S : Nat) : List Nat := (List.range n).filter (fun v => S.testBit v)
noncomputable def isBd (P : PT) (T : TT) (x S : Nat) : Bool := decide ((tLds P (sL P.1.2.1 S) T).1.1.1.1 x = 3)
/-- a set of drivers that aren't loaded by which x would be bound -/
def cdS (P : PT) (T : TT) (x S : Nat) : Prop := 1 ≤ S ∧ S < 2 ^ P.1.2.1 ∧ (∀ j, S.testBit j = true → bt T.2.2.1.2 j = false) ∧ isBd P T x S = true
def pcn (S : Nat) : Nat := cb (nI S) 8
/-- b is no worse than s -/
def bet (b s : Nat) : Prop := pcn b < pcn s ∨ (pcn b = pcn s ∧ b ≤ s)
def wnP (P : PT) (T : TT) (x n : Nat) (o : Option Nat) : Prop := (∀ b, o = some b → b < n ∧ cdS P T x b) ∧ ∀ s, s < n → cdS P T x s → ∃ b, o = some b ∧ bet b s
theorem wnP_u {P : PT} {T : TT} {x : Nat} {o p : Option Nat} (h : wnP P T x (2 ^ P.1.2.1) o) (g : wnP P T x (2 ^ P.1.2.1) p) : o = p := by
  cases o with
  | none =>
    cases p with
    | none => rfl
    | some b =>
      obtain ⟨h1, h2⟩ := g.1 b rfl
      obtain ⟨b', e, -⟩ := h.2 b h1 h2
      cases e
  | some a =>
    obtain ⟨h1, h2⟩ := h.1 a rfl
    obtain ⟨b, e, hb⟩ := g.2 a h1 h2
    subst e
    obtain ⟨h3, h4⟩ := g.1 b rfl
    obtain ⟨a', e, ha⟩ := h.2 b h3 h4
    cases e
    unfold bet at ha hb
    congr 1
    omega
theorem wnP_ex (P : PT) (T : TT) (x : Nat) : ∀ n, ∃ o, wnP P T x n o
  | 0 => ⟨none, fun b hb => (by cases hb), fun s hs => (by omega)⟩
  | n + 1 => by
    obtain ⟨o, h1, h2⟩ := wnP_ex P T x n
    by_cases hc : cdS P T x n ∧ ∀ b, o = some b → pcn n < pcn b
    · refine ⟨some n, fun b hb => by cases hb; exact ⟨by omega, hc.1⟩, fun s hs hcs => ?_⟩
      by_cases e : s = n
      · exact ⟨n, rfl, Or.inr ⟨by rw [e], by omega⟩⟩
      · obtain ⟨b, hb, hbt⟩ := h2 s (by omega) hcs
        have := hc.2 b hb
        refine ⟨n, rfl, Or.inl ?_⟩
        unfold bet at hbt
        omega
    · refine ⟨o, fun b hb => ⟨by have := (h1 b hb).1; omega, (h1 b hb).2⟩, fun s hs hcs => ?_⟩
      by_cases e : s = n
      · subst e
        cases o with
        | none => exact absurd ⟨hcs, fun b hb => by cases hb⟩ hc
        | some b =>
          refine ⟨b, rfl, ?_⟩
          have hle : pcn b ≤ pcn s := Classical.byContradiction fun z => hc ⟨hcs, fun b' hb' => by cases hb'; omega⟩
          have := (h1 b rfl).1
          unfold bet
          omega
      · exact h2 s (by omega) hcs
noncomputable def wnt (P : PT) (T : TT) (x : Nat) : Option Nat := (wnP_ex P T x (2 ^ P.1.2.1)).choose
theorem wnt_p (P : PT) (T : TT) (x : Nat) : wnP P T x (2 ^ P.1.2.1) (wnt P T x) := (wnP_ex P T x (2 ^ P.1.2.1)).choose_spec
def wanA (o : Option Nat) (w : Int32) : Int32 := match o with
  | none => -1
  | some b => if w = nI 0 then nI (pcn b) else nI b
noncomputable def pWan (P : PT) (T : TT) (v w : Int32) : Int32 := if (inN v P.1.1 = true ∧ opn T v.toNatClampNeg = true) ∧ inN w 2 = true then wanA (wnt P T v.toNatClampNeg) w else -1
theorem bt_n {s : Nat} {j : Nat} (hj : j < 32) : bt (nI s) j = s.testBit j := by
  unfold bt
  show (BitVec.ofNat 32 s).getLsbD j = _
  rw [BitVec.getLsbD_ofNat]
  simp [hj]
theorem tb_hi {S n j : Nat} (h : S < 2 ^ n) (hj : S.testBit j = true) : j < n := Classical.byContradiction fun z => by
  rw [Nat.testBit_lt_two_pow (Nat.lt_of_lt_of_le h (Nat.pow_le_pow_right (by decide) (by omega)))] at hj
  cases hj
/-- loading keeps what is so -/
def CG (T U : TT) : Prop := U.2.2.2.2 + T.1.2.2.1.length = T.2.2.2.2 + U.1.2.2.1.length ∧ T.2.2.2.2 ≤ U.2.2.2.2
theorem CG.rf {T : TT} : CG T T := ⟨rfl, Nat.le_refl _⟩
theorem CG.tr {T U W : TT} (h : CG T U) (g : CG U W) : CG T W := ⟨by have := h.1; have := g.1; omega, Nat.le_trans h.2 g.2⟩
theorem tLoad_v {P : PT} {T : TT} {v : Nat} (hV : PV P) (hT : IV P T) : IV P (tLoad P T v) ∧ CG T (tLoad P T v) := by
  unfold tLoad tLoad0
  have h0 : IV P (u_ld T (T.2.2.1.2 ||| (nI 1 <<< (nI v &&& 31)))) := IV_ld hT
  obtain ⟨f1, f2⟩ := tTries_v (p := fun x => (P.2.2.2.2.1 v x).isSome) hV (List.range P.1.1) _ rg_lt h0
  obtain ⟨-, g2⟩ := tSettle_f hV 13 T.2.2.2.2 _ f1.1
  have g1 := tSettle_v hV 13 T.2.2.2.2 _ f1
  have hs := SF_sync P (tSettle P 13 T.2.2.2.2 (tTries P (fun x => (P.2.2.2.2.1 v x).isSome) (List.range P.1.1) (u_ld T (T.2.2.1.2 ||| (nI 1 <<< (nI v &&& 31))))))
  refine ⟨IV_sync g1, ?_⟩
  have e : CG T (tSettle P 13 T.2.2.2.2 (tTries P (fun x => (P.2.2.2.2.1 v x).isSome) (List.range P.1.1) (u_ld T (T.2.2.1.2 ||| (nI 1 <<< (nI v &&& 31)))))) := CG.tr (T := T) ⟨f2.2.1, f2.2.2.1⟩ ⟨g2.2.1, g2.2.2.1⟩
  unfold CG at e ⊢
  rw [hs.2.2.2.2.2.2.2.2.2.2.2.2.2, hs.2.2.2.2.2.1]
  exact e
theorem CG_cn {P : PT} {T U : TT} (hV : PV P) (hU : TV P U) (h : CG T U) : U.2.2.2.2 ≤ T.2.2.2.2 + 12 := by
  have := h.1
  have := bnd_12 hV hU
  omega
section MWANT
variable {ρ : Nat × (Nat → Int32)} {d : Nat} {c : Nat × Nat} {R : Nat → Nat → Option Nat} {I : Nat → Nat → Int32} {L : Nat → Nat → Int64} {P : PT} {sd : Nat} {T : TT}
/-- what was there lies in asIs -/
def AsI (P : PT) (sd : Nat) (I J : Nat → Nat → Int32) : Prop := (∀ j, j < 443 → J 279 j = I 274 j) ∧ PM P sd J ∧ FT I J
theorem PM_FT {J : Nat → Nat → Int32} (hP : PM P sd I) (h : FT I J) : PM P sd J := PM_to hP (fun q hq => by
  have : ∀ q, q ∈ bdM → q ≠ 274 ∧ q ≠ 275 ∧ q ≠ 276 ∧ q ≠ 277 ∧ q ≠ 278 ∧ q ≠ 279 ∧ q ≠ 257 := by decide
  obtain ⟨g1, g2, g3, g4, g5, g6, g7⟩ := this q hq
  funext j
  refine h q j ?_
  rintro (e | e | e | e | e | e | ⟨e, -⟩)
  · exact g1 e
  · exact g2 e
  · exact g3 e
  · exact g4 e
  · exact g5 e
  · exact g6 e
  · exact g7 e) (h 257 18 (by omega))
theorem M_wan_c {v w : Int32} : ∀ (n k : Nat) (J : Nat → Nat → Int32), k + n = 443 → (∀ q, q ≠ 279 → J q = I q) → (∀ j, j < k → J 279 j = I 274 j) → ∃ K, EV ρ (d + 30) 101 34 [.ref 257, .int v, .int w, .int (nI k), zU, zU] [] (mk c R J L) = EV ρ (d + 30) 101 74 [.ref 257, .int v, .int w, .int (-1), .int (K 274 441), .int (nI 1)] [] (mk c R K L) ∧ (∀ q, q ≠ 279 → K q = I q) ∧ ∀ j, j < 443 → K 279 j = I 274 j := by
  intro n
  induction n with
  | zero =>
    intro k J hk h1 h2
    obtain rfl : k = 443 := by omega
    exact ⟨J, by rw [bM_wanted_34, if_pos (nI_le (by omega) (by omega))], h1, h2⟩
  | succ n ih =>
    intro k J hk h1 h2
    rw [bM_wanted_34, if_neg (nI_ge (by omega) (by omega)), zidx_n (by omega) (by decide), zidx_n (by omega) (by decide), bM_wanted_53, nI_add]
    refine ih (k + 1) _ (by omega) (fun q hq => by rw [z2_ne hq]; exact h1 q hq) (fun j hj => ?_)
    rw [z2a]
    by_cases e : j = k
    · rw [if_pos ⟨rfl, e⟩, h1 274 (by decide), e]
    · rw [if_neg (fun z => e z.2)]
      exact h2 j (by omega)
theorem M_isB_c {v w : Int32} : ∀ (n k : Nat) (J : Nat → Nat → Int32), k + n = 443 → (∀ q, q ≠ 274 → J q = I q) → (∀ j, j < k → J 274 j = I 279 j) → ∃ K, EV ρ (d + 29) 100 2 [.ref 257, .int v, .int w, .int (nI k)] [] (mk c R J L) = EV ρ (d + 29) 100 29 [.ref 257, .int v, .int w, .int (nI 0)] [] (mk c R K L) ∧ (∀ q, q ≠ 274 → K q = I q) ∧ ∀ j, j < 443 → K 274 j = I 279 j := by
  intro n
  induction n with
  | zero =>
    intro k J hk h1 h2
    obtain rfl : k = 443 := by omega
    exact ⟨J, by rw [bM_isBoundBy_2, if_pos (nI_le (by omega) (by omega))], h1, h2⟩
  | succ n ih =>
    intro k J hk h1 h2
    rw [bM_isBoundBy_2, if_neg (nI_ge (by omega) (by omega)), zidx_n (by omega) (by decide), zidx_n (by omega) (by decide), bM_isBoundBy_21, nI_add]
    refine ih (k + 1) _ (by omega) (fun q hq => by rw [z2_ne hq]; exact h1 q hq) (fun j hj => ?_)
    rw [z2a]
    by_cases e : j = k
    · rw [if_pos ⟨rfl, e⟩, h1 279 (by decide), e]
    · rw [if_neg (fun z => e z.2)]
      exact h2 j (by omega)
theorem M_isB_l {x S : Nat} (hx : x < P.1.1) : ∀ (n k : Nat) (T : TT) (I : Nat → Nat → Int32), k + n = P.1.2.1 → MX P sd T I → IV P T → T.2.2.2.2 + 36 < 2 ^ 30 + T.1.2.2.1.length → ∃ J, EV ρ (d + 29) 100 29 [.ref 257, .int (nI x), .int (nI S), .int (nI k)] [] (mk c R I L) = some ([.int (bo (decide ((tLds P (((List.range P.1.2.1).drop k).filter (fun v => S.testBit v)) T).1.1.1.1 x = 3)))], mk c R J L) ∧ FX I J := by
  intro n
  induction n with
  | zero =>
    intro k T I hk h hT hc
    have h12 := h.1.1
    have h8 := h.1.2.1
    have hs := hT.1.1.1 x
    rw [rg_nil (by omega), bM_isBoundBy_29, M_drivers_e h.2.1, zci, bM_isBoundBy_34, if_pos (nI_le (by omega) (by omega)), nI_add, Nat.zero_add, zidx_n (by omega) (by decide), (h.2.2.1 x (by omega)).1]
    refine ⟨I, ?_, FX.rf⟩
    show _ = some ([Value.int (bo (decide (T.1.1.1.1 x = 3)))], mk c R I L)
    by_cases e3 : T.1.1.1.1 x = 3
    · rw [if_pos (by rw [e3]), decide_eq_true e3]; rfl
    · rw [if_neg (by rw [nI_eq (by omega) (by decide)]; exact e3), decide_eq_false e3]; rfl
  | succ n ih =>
    intro k T I hk h hT hc
    have h12 := h.1.1
    have h8 := h.1.2.1
    rw [rg_cons (by omega), bM_isBoundBy_29, M_drivers_e h.2.1, zci, bM_isBoundBy_34, if_neg (nI_ge (by omega) (by omega)), M_has_e _ (by omega), zci, bM_isBoundBy_42, bt_n (by omega)]
    cases e : S.testBit k with
    | false =>
      rw [if_pos (by decide), nI_add, List.filter_cons_of_neg (by simp [e])]
      exact ih (k + 1) T I (by omega) h hT hc
    | true =>
      have hb12 := bnd_12 h.1 hT.1.1
      obtain ⟨J, g1, g2, g3⟩ := M_loads_e (ρ := ρ) (d := d) (c := c) (R := R) (L := L) h hT (by omega) (show k < P.1.2.1 by omega)
      obtain ⟨f1, f2⟩ := tLoad_v (v := k) h.1 hT
      rw [if_neg (by decide), g1, zci, bM_isBoundBy_50, nI_add, List.filter_cons_of_pos (by simp [e])]
      obtain ⟨J2, k1, k2⟩ := ih (k + 1) (tLoad P T k) J (by omega) g2 f1 (by have := f2.1; omega)
      exact ⟨J2, k1, g3.tr k2⟩
theorem M_isBoundBy_e (h : MX P sd T I) (hT : IV P T) (hc : T.2.2.2.2 + 36 < 2 ^ 30) {x S : Nat} (hx : x < P.1.1) {J : Nat → Nat → Int32} (hA : AsI P sd I J) : ∃ K, EV ρ (d + 29) 100 0 [.ref 257, .int (nI x), .int (nI S), zU] [] (mk c R J L) = some ([.int (bo (isBd P T x S))], mk c R K L) ∧ AsI P sd I K := by
  obtain ⟨K, k1, k2, k3⟩ := M_isB_c (ρ := ρ) (d := d) (c := c) (R := R) (I := J) (L := L) (v := nI x) (w := nI S) 443 0 J (by omega) (fun _ _ => rfl) (fun j hj => by omega)
  have hFK : FT I K := hA.2.2.tr (fun q j hq => by rw [k2 q (by omega)])
  have hM : MX P sd T K := ⟨h.1, PM_FT h.2.1 hFK, MR_ext h.2.2 (hT.1.1.bnd h.1) (fun k hk => by rw [k3 k hk]; exact hA.1 k hk)⟩
  obtain ⟨J2, g1, g2⟩ := M_isB_l (ρ := ρ) (d := d) (c := c) (R := R) (L := L) (S := S) hx P.1.2.1 0 T K (by omega) hM hT (by omega)
  rw [bM_isBoundBy_0, k1, g1]
  have hFJ : FT I J2 := hFK.tr g2.t
  exact ⟨J2, rfl, fun j hj => by rw [g2 279 j (by omega), k2 279 (by decide)]; exact hA.1 j hj, PM_FT h.2.1 hFJ, hFJ⟩
theorem sh1 : ∀ k, k < 9 → nI 1 <<< (nI k &&& 31) = nI (2 ^ k) := by decide +kernel
theorem and_0 {A B : Int32} : A &&& B = 0 ↔ ∀ j, j < 32 → ¬ (bt A j = true ∧ bt B j = true) := by
  constructor
  · intro h j hj z
    have : bt (A &&& B) j = bt 0 j := by rw [h]
    rw [b_and, b_0, z.1, z.2] at this
    cases this
  · intro h
    refine b_ext fun j hj => ?_
    rw [b_and, b_0]
    have := h j hj
    cases ea : bt A j <;> cases eb : bt B j <;> simp_all
theorem pcn_le (S : Nat) : pcn S ≤ 8 := cb_le _ _
theorem M_wanted_l (h : MX P sd T I) (hT : IV P T) (hc : T.2.2.2.2 + 36 < 2 ^ 30) {x : Nat} (hx : x < P.1.1) {w : Int32} : ∀ (n S : Nat) (o : Option Nat) (J : Nat → Nat → Int32), 1 ≤ S → S + n = 2 ^ P.1.2.1 → AsI P sd I J → wnP P T x S o → ∃ K, EV ρ (d + 30) 101 74 [.ref 257, .int (nI x), .int w, .int (eO o), .int T.2.2.1.2, .int (nI S)] [] (mk c R J L) = EV ρ (d + 30) 101 138 [.ref 257, zU, .int w, .int (eO (wnt P T x)), zU, .int (nI 0)] [] (mk c R K L) ∧ AsI P sd I K := by
  have hV := h.1
  have h8 := hV.2.1
  have h256 : 2 ^ P.1.2.1 ≤ 256 := by
    have : 2 ^ P.1.2.1 ≤ 2 ^ 8 := Nat.pow_le_pow_right (by decide) h8
    omega
  intro n
  induction n with
  | zero =>
    intro S o J hS1 hS hA hw
    obtain rfl : S = 2 ^ P.1.2.1 := by omega
    rw [bM_wanted_74, M_drivers_e hA.2.1, zci, bM_wanted_81, sh1 _ (by omega), if_pos (nI_le (by omega) (by omega)), wnP_u hw (wnt_p P T x)]
    exact ⟨J, rfl, hA⟩
  | succ n ih =>
    intro S o J hS1 hS hA hw
    have hSn : S < 2 ^ P.1.2.1 := by omega
    have hold : ¬ (cdS P T x S ∧ ∀ b, o = some b → pcn S < pcn b) → wnP P T x (S + 1) o := fun hno => ⟨fun b hb => ⟨by have := (hw.1 b hb).1; omega, (hw.1 b hb).2⟩, fun s hs hcs => by
      by_cases e : s = S
      · subst e
        cases o with
        | none => exact absurd ⟨hcs, fun b hb => by cases hb⟩ hno
        | some b =>
          refine ⟨b, rfl, ?_⟩
          have hle : pcn b ≤ pcn s := Classical.byContradiction fun z => hno ⟨hcs, fun b' hb' => by cases hb'; omega⟩
          have := (hw.1 b rfl).1
          unfold bet
          omega
      · exact hw.2 s (by omega) hcs⟩
    have hnew : cdS P T x S → (∀ b, o = some b → pcn S < pcn b) → wnP P T x (S + 1) (some S) := fun hcd hlt => ⟨fun b hb => by cases hb; exact ⟨by omega, hcd⟩, fun s hs hcs => by
      by_cases e : s = S
      · exact ⟨S, rfl, Or.inr ⟨by rw [e], by omega⟩⟩
      · obtain ⟨b, hb, hbt⟩ := hw.2 s (by omega) hcs
        have := hlt b hb
        refine ⟨S, rfl, Or.inl ?_⟩
        unfold bet at hbt
        omega⟩
    rw [bM_wanted_74, M_drivers_e hA.2.1, zci, bM_wanted_81, sh1 _ (by omega), if_neg (nI_ge hSn (by omega)), nI_add S 1]
    have hfree : (nI S &&& T.2.2.1.2 = 0) ↔ ∀ j, S.testBit j = true → bt T.2.2.1.2 j = false := by
      rw [and_0]
      constructor
      · intro hh j hj
        have hj8 := tb_hi hSn hj
        refine Bool.eq_false_iff.mpr (fun z => hh j (by omega) ⟨by rw [bt_n (by omega)]; exact hj, z⟩)
      · intro hh j hj z
        rw [bt_n hj] at z
        rw [hh j z.1] at z
        cases z.2
    by_cases ef : nI S &&& T.2.2.1.2 = 0
    · rw [if_pos ef]
      -- it is tried
      have tryit : (∀ b, o = some b → pcn S < pcn b) → ∃ K, zcI (EV ρ (d + 29) 100 0 [.ref 257, .int (nI x), .int (nI S), zU] [] (mk c R J L)) (fun x2 s1 => EV ρ (d + 30) 101 120 [.ref 257, .int (nI x), .int w, .int (eO o), .int T.2.2.1.2, .int (nI S)] [.int x2] s1) = EV ρ (d + 30) 101 138 [.ref 257, zU, .int w, .int (eO (wnt P T x)), zU, .int (nI 0)] [] (mk c R K L) ∧ AsI P sd I K := fun hlt => by
        obtain ⟨K, k1, k2⟩ := M_isBoundBy_e (ρ := ρ) (d := d) (c := c) (R := R) (L := L) h hT hc (S := S) hx hA
        rw [k1, zci, bM_wanted_120, nI_add S 1]
        cases eb : isBd P T x S with
        | false =>
          rw [if_pos (by decide)]
          exact ih (S + 1) o K (by omega) (by omega) k2 (hold (fun z => by have := z.1.2.2.2; rw [eb] at this; cases this))
        | true =>
          rw [if_neg (by decide)]
          exact ih (S + 1) (some S) K (by omega) (by omega) k2 (hnew ⟨hS1, hSn, hfree.mp ef, eb⟩ hlt)
      cases o with
      | none =>
        rw [if_pos (by decide)]
        exact tryit (fun b hb => by cases hb)
      | some b =>
        have hb := (hw.1 b rfl).1
        rw [eO_s, if_neg (nI_pos (by omega)), M_count_e _ (by omega), zci, bM_wanted_104, M_count_e _ (by omega), zci, bM_wanted_110, nI_add S 1]
        have p1 := pcn_le S
        have p2 := pcn_le b
        unfold pcn at p1 p2
        by_cases e : cb (nI b) 8 ≤ cb (nI S) 8
        · rw [if_pos (nI_le e (by omega))]
          exact ih (S + 1) (some b) J (by omega) (by omega) hA (hold (fun z => by have := z.2 b rfl; unfold pcn at this; omega))
        · rw [if_neg (nI_ge (by omega) (by omega))]
          exact tryit (fun b' hb' => by cases hb'; unfold pcn; omega)
    · rw [if_neg ef]
      exact ih (S + 1) o J (by omega) (by omega) hA (hold (fun z => ef (hfree.mpr z.1.2.2.1)))
theorem M_wan_b {w : Int32} {o : Option Nat} (ho : ∀ b, o = some b → b < 256) (hw : w = nI 0 ∨ w = nI 1) : ∀ (n k : Nat) (J : Nat → Nat → Int32), k + n = 443 → (∀ q, q ≠ 274 → J q = I q) → (∀ j, j < k → J 274 j = I 279 j) → ∃ K, EV ρ (d + 30) 101 138 [.ref 257, zU, .int w, .int (eO o), zU, .int (nI k)] [] (mk c R J L) = some ([.int (wanA o w)], mk c R K L) ∧ (∀ q, q ≠ 274 → K q = I q) ∧ ∀ j, j < 443 → K 274 j = I 279 j := by
  intro n
  induction n with
  | zero =>
    intro k J hk h1 h2
    obtain rfl : k = 443 := by omega
    refine ⟨J, ?_, h1, h2⟩
    rw [bM_wanted_138, if_pos (nI_le (by omega) (by omega))]
    unfold wanA
    cases o with
    | none => rw [if_neg (by decide)]
    | some b =>
      have := ho b rfl
      rw [eO_s, if_pos (nI_pos' (by omega))]
      by_cases e : w = nI 0
      · rw [if_pos (show w = 0 from e), M_count_e _ (by omega), zci, bM_wanted_184]
        dsimp only
        rw [if_pos e]; rfl
      · rw [if_neg (show ¬ w = 0 from e)]
        dsimp only
        rw [if_neg e]
  | succ n ih =>
    intro k J hk h1 h2
    rw [bM_wanted_138, if_neg (nI_ge (by omega) (by omega)), zidx_n (by omega) (by decide), zidx_n (by omega) (by decide), bM_wanted_160, nI_add]
    refine ih (k + 1) _ (by omega) (fun q hq => by rw [z2_ne hq]; exact h1 q hq) (fun j hj => ?_)
    rw [z2a]
    by_cases e : j = k
    · rw [if_pos ⟨rfl, e⟩, h1 279 (by decide), e]
    · rw [if_neg (fun z => e z.2)]
      exact h2 j (by omega)
theorem M_wanted_e (h : MX P sd T I) (hT : IV P T) (hc : T.2.2.2.2 + 36 < 2 ^ 30) (v w : Int32) : ∃ J, EV ρ (d + 30) 101 0 [.ref 257, .int v, .int w, zU, zU, zU] [] (mk c R I L) = some ([.int (pWan P T v w)], mk c R J L) ∧ MX P sd T J ∧ FT I J := by
  have hV := h.1
  have h12 := hV.1
  have h8 := hV.2.1
  have h1 := MX_z2 (j := 2) (v := nI 0) h (by decide)
  have hF1 : FT I (z2 I 257 2 (nI 0)) := FT.rf.z2 (Or.inl rfl)
  rw [bM_wanted_0, bM_wanted_5, M_isDevice_e h1.2.1 h12, zci, bM_wanted_10]
  unfold pWan
  by_cases hi : inN v P.1.1 = true
  · obtain ⟨x, hx, rfl⟩ := (inN_iff (by omega)).mp hi
    rw [nI_clamp (by omega), hi, if_neg (by decide), M_isOpen_e h1.2.2 (by omega) (hT.1.1.1 x), zci, bM_wanted_18]
    cases eo : opn T x with
    | false =>
      rw [if_pos (by decide), if_neg (fun z => by cases z.1.2)]
      exact ⟨_, rfl, h1, hF1⟩
    | true =>
      rw [if_neg (by decide), M_within_e, zci, bM_wanted_27, wi_inS w (n := 2) rfl (by decide)]
      by_cases hj : inN w 2 = true
      · have hw01 : w = nI 0 ∨ w = nI 1 := by
          obtain ⟨y, hy, rfl⟩ := (inN_iff (by decide)).mp hj
          have : y = 0 ∨ y = 1 := by omega
          rcases this with rfl | rfl
          · exact Or.inl rfl
          · exact Or.inr rfl
        obtain ⟨K, k1, k2, k3⟩ := M_wan_c (ρ := ρ) (d := d) (c := c) (R := R) (I := z2 I 257 2 (nI 0)) (L := L) (v := nI x) (w := w) 443 0 _ (by omega) (fun _ _ => rfl) (fun j hj => by omega)
        have hFK : FT (z2 I 257 2 (nI 0)) K := fun q j hq => by rw [k2 q (by omega)]
        have hA : AsI P sd (z2 I 257 2 (nI 0)) K := ⟨k3, PM_FT h1.2.1 hFK, hFK⟩
        have eld : K 274 441 = T.2.2.1.2 := by rw [k2 274 (by decide)]; exact h1.2.2.2.2.1.2.2.2
        have h1p : 1 ≤ 2 ^ P.1.2.1 := Nat.one_le_two_pow
        obtain ⟨J, g1, g2⟩ := M_wanted_l (ρ := ρ) (d := d) (c := c) (R := R) (L := L) h1 hT hc hx (w := w) (2 ^ P.1.2.1 - 1) 1 none K (Nat.le_refl _) (by omega) hA ⟨fun b hb => (by cases hb), fun s hs hcs => by have := hcs.1; omega⟩
        have ho : ∀ b, wnt P T x = some b → b < 256 := fun b hb => by
          have := ((wnt_p P T x).1 b hb).1
          have : 2 ^ P.1.2.1 ≤ 2 ^ 8 := Nat.pow_le_pow_right (by decide) h8
          omega
        obtain ⟨B, b1, b2, b3⟩ := M_wan_b (ρ := ρ) (d := d) (c := c) (R := R) (I := J) (L := L) ho hw01 443 0 J (by omega) (fun _ _ => rfl) (fun j hj => by omega)
        rw [eO_n] at g1
        rw [hj, if_neg (by decide), k1, eld, g1, b1, if_pos (show (true = true ∧ true = true) ∧ true = true from ⟨⟨rfl, rfl⟩, rfl⟩)]
        have hFB : FT (z2 I 257 2 (nI 0)) B := g2.2.2.tr (fun q j hq => by rw [b2 q (by omega)])
        exact ⟨B, rfl, ⟨hV, PM_FT h1.2.1 hFB, MR_ext h1.2.2 (hT.1.1.bnd hV) (fun k hk => by rw [b3 k hk]; exact g2.1 k hk)⟩, hF1.tr hFB⟩
      · rw [Bool.eq_false_iff.mpr hj, if_pos (by decide), if_neg (fun z => by cases z.2)]
        exact ⟨_, rfl, h1, hF1⟩
  · rw [Bool.eq_false_iff.mpr hi, if_pos (by decide), if_neg (fun z => by cases z.1.1)]
    exact ⟨_, rfl, h1, hF1⟩
end MWANT
