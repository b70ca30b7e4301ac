-- SCORES: the component's
theorem OnT_slc {n : Nat} {t : Nat → Nat} {w : List Nat} {k : Nat} (h : ∀ i z, w[i]? = some z → t (k + i) = z) : slc t k (k + w.length) = w := by
  apply List.ext_getElem?
  intro i
  by_cases hi : i < w.length
  · rw [slc_at t _ _ (by omega), List.getElem?_eq_getElem hi, h i _ (List.getElem?_eq_getElem hi)]
  · rw [List.getElem?_eq_none (by rw [slc_len]; omega), List.getElem?_eq_none (by omega)]
theorem all_k : ∀ n, n < 9 → ∀ j, j < 32 → bt ((nI 1 <<< (nI (n + 1) &&& 31)) - nI 1) j = decide (j ≤ n) := by decide +kernel
theorem neg_k : ∀ k, k < 12 → ∀ j, j < 32 → bt (-nI (2 ^ k)) j = decide (k ≤ j) := by decide +kernel
theorem lwb_s {S : Int32} {k : Nat} (h : lwb S = some k) : k < 12 ∧ bt S k = true ∧ ∀ j, j < k → bt S j = false := by
  unfold lwb at h
  rw [List.find?_range_eq_some] at h
  exact ⟨List.mem_range.mp h.2.1, h.1, fun j hj => by have := h.2.2 j hj; simpa using this⟩
theorem lwb_n {S : Int32} (h : lwb S = none) : ∀ j, j < 12 → bt S j = false := by
  unfold lwb at h
  rw [List.find?_range_eq_none] at h
  exact fun j hj => by have := h j hj; simpa using this
/-- one sign's step, as the component takes it -/
theorem st_42 {i : List Nat} {S : Int32} {u : Nat → Bool} (hi : i.length ≤ 8) (hu : ∀ b, bt S b = u b) (hl : ∀ b, i.length < b → u b = false) (b : Nat) : bt (((nI 1 <<< (nI (i.length + 1) &&& 31)) - nI 1) &&& (-(match lwb S with
    | none => 0
    | some k => nI (2 ^ k)))) b = sB i 42 u b := by
  rw [b_and]
  by_cases hb : b < 32
  · rw [all_k _ (by omega) b hb]
    unfold sB
    congr 1
    cases e : lwb S with
    | none =>
      show bt (-0) b = _
      rw [show (-0 : Int32) = 0 from by decide, b_0]
      refine (List.any_eq_false.mpr (fun k hk => ?_)).symm
      have hk' := List.mem_range.mp hk
      rw [← hu k, lwb_n e k (by omega), Bool.false_and]
      decide
    | some k =>
      obtain ⟨g1, g2, g3⟩ := lwb_s e
      show bt (-nI (2 ^ k)) b = _
      have hkl : k ≤ i.length := by
        apply Classical.byContradiction
        intro h
        rw [hu k, hl k (by omega)] at g2
        cases g2
      rw [neg_k k g1 b hb]
      by_cases hkb : k ≤ b
      · rw [decide_eq_true hkb]
        refine (List.any_eq_true.mpr ⟨k, List.mem_range.mpr (by omega), ?_⟩).symm
        rw [← hu k, g2]
        unfold sG
        rw [if_pos rfl, decide_eq_true hkb]
        rfl
      · rw [decide_eq_false hkb]
        refine (List.any_eq_false.mpr (fun y hy => ?_)).symm
        unfold sG
        rw [if_pos rfl, ← hu y]
        by_cases hyb : y ≤ b
        · rw [g3 y (by omega), Bool.false_and]; decide
        · rw [decide_eq_false hyb, Bool.and_false]; decide
  · rw [b_big (by omega), Bool.false_and]
    unfold sB
    rw [decide_eq_false (by omega), Bool.false_and]
theorem any_pt {m b : Nat} {f : Nat → Bool} (hm : b ≤ m) : (List.range (m + 1)).any (fun k => f k && (k + 1 == b)) = (decide (1 ≤ b) && f (b - 1)) := by
  by_cases hb : 1 ≤ b
  · rw [decide_eq_true hb, Bool.true_and]
    cases e : f (b - 1)
    · refine List.any_eq_false.mpr (fun k hk => ?_)
      by_cases ek : k + 1 = b
      · rw [show k = b - 1 from by omega, e, Bool.false_and]; decide
      · rw [beq_eq_false_iff_ne.mpr ek, Bool.and_false]; decide
    · refine List.any_eq_true.mpr ⟨b - 1, List.mem_range.mpr (by omega), ?_⟩
      rw [e, show b - 1 + 1 = b from by omega, beq_self_eq_true]
      rfl
  · rw [decide_eq_false hb, Bool.false_and]
    refine List.any_eq_false.mpr (fun k hk => ?_)
    rw [beq_eq_false_iff_ne.mpr (by omega), Bool.and_false]
    decide
theorem st_o {i : List Nat} {S P : Int32} {cc : Nat} {u : Nat → Bool} (hc : cc ≠ 42) (hi : i.length ≤ 8) (hu : ∀ b, bt S b = u b) (hP : ∀ b, bt P b = (u b && (cc == 63 || i[b]? == some cc))) (b : Nat) : bt (((nI 1 <<< (nI (i.length + 1) &&& 31)) - nI 1) &&& (P <<< (nI 1 &&& 31))) b = sB i cc u b := by
  rw [b_and]
  by_cases hb : b < 32
  · rw [all_k _ (by omega) b hb, b_shl 1 (by decide) _ hb, hP]
    unfold sB
    by_cases hbl : b ≤ i.length
    · rw [decide_eq_true hbl, Bool.true_and, Bool.true_and]
      have : (fun k => u k && sG i cc k b) = (fun k => (u k && (cc == 63 || i[k]? == some cc)) && (k + 1 == b)) := by
        funext k
        unfold sG
        rw [if_neg hc]
        cases u k <;> cases (k + 1 == b) <;> cases (cc == 63 || i[k]? == some cc) <;> rfl
      rw [this, any_pt hbl]
    · rw [decide_eq_false hbl, Bool.false_and, Bool.false_and]
  · rw [b_big (by omega), Bool.false_and]
    unfold sB
    rw [decide_eq_false (by omega), Bool.false_and]
section CSCORE
variable {ρ : Nat × (Nat → Int32)} {d : Nat} {c : Nat × Nat} {R : Nat → Nat → Option Nat} {I J : Nat → Nat → Int32} {L : Nat → Nat → Int64} {n : Nat} {t : Nat → Nat} {p x : Nat} {i w : List Nat}
theorem Par_places_e {cc a : Nat} (h : TC n t I) (hx : x < 12) (hc : cc < 128) (hi8 : i.length ≤ 8) (ha : I 4 x = nI a) (hb : I 5 x = nI (a + i.length)) (hn : a + i.length ≤ n) (hid : ∀ k z, i[k]? = some z → t (a + k) = z ∧ z < 128) : ∃ P, EV ρ (d + 2) 155 0 [.ref 3, .int (nI cc), .int (nI x), zU, zU] [] (mk c R I L) = some ([.int P], mk c R I L) ∧ ∀ b, bt P b = (i[b]? == some cc) := by
  have h6 := h.2.1
  have loop : ∀ (j k : Nat) (P : Int32), i.length - k = j → k ≤ i.length → (∀ b, bt P b = (decide (b < k) && i[b]? == some cc)) → ∃ P', EV ρ (d + 2) 155 10 [.ref 3, .int (nI cc), .int (nI x), .int P, .int (nI (a + k))] [] (mk c R I L) = some ([.int P'], mk c R I L) ∧ ∀ b, bt P' b = (i[b]? == some cc) := by
    intro j
    induction j with
    | zero =>
      intro k P hj hk hP
      have e : k = i.length := by omega
      subst e
      rw [bPar_placesOfSign_10, zidx_n hx (by decide), hb, if_pos (nI_le (Nat.le_refl _) (by omega))]
      refine ⟨P, rfl, fun b => ?_⟩
      rw [hP b]
      by_cases hbl : b < i.length
      · rw [decide_eq_true hbl, Bool.true_and]
      · rw [decide_eq_false hbl, Bool.false_and, List.getElem?_eq_none (by omega)]; rfl
    | succ j ih =>
      intro k P hj hk hP
      obtain ⟨z, hz⟩ : ∃ z, i[k]? = some z := ⟨i[k], List.getElem?_eq_getElem (by omega)⟩
      obtain ⟨y1, y2⟩ := hid k z hz
      rw [bPar_placesOfSign_10, zidx_n hx (by decide), hb, if_neg (nI_ge (by omega) (by omega)), Tap_at_e h (by omega), zci, bPar_placesOfSign_30, y1, sb_n y2, nI_add]
      by_cases c1 : z = cc
      · rw [if_pos (by rw [c1]), zidx_n hx (by decide), ha, pk_sub (by omega), show a + k - a = k from by omega]
        refine ih (k + 1) _ (by omega) (by omega) (fun b => ?_)
        rw [b_or, hP b, b_bit (by omega)]
        by_cases eb : b = k
        · rw [eb, hz, c1, decide_eq_true rfl, decide_eq_true (show k < k + 1 from by omega), Bool.or_true]; exact (beq_self_eq_true _).symm
        · rw [decide_eq_false eb, Bool.or_false]
          congr 1
          exact decide_eq_decide.mpr ⟨fun y => by omega, fun y => by omega⟩
      · rw [if_neg (fun y => c1 ((nI_eq (by omega) (by omega)).mp y))]
        refine ih (k + 1) _ (by omega) (by omega) (fun b => ?_)
        rw [hP b]
        by_cases eb : b = k
        · rw [eb, hz, beq_eq_false_iff_ne.mpr (fun y => c1 (Option.some.inj y)), Bool.and_false, Bool.and_false]
        · congr 1
          exact decide_eq_decide.mpr ⟨fun y => by omega, fun y => by omega⟩
  rw [bPar_placesOfSign_0, zidx_n hx (by decide), ha]
  refine loop i.length 0 (nI 0) rfl (Nat.zero_le _) (fun b => ?_)
  rw [show bt (nI 0) b = false from b_0 b, decide_eq_false (Nat.not_lt_zero _), Bool.false_and]
theorem Par_matches_e {a f : Nat} (h : TC n t I) (hx : x < 12) (hi8 : i.length ≤ 8) (ha : I 4 x = nI a) (hb : I 5 x = nI (a + i.length)) (hn : a + i.length ≤ n) (hid : ∀ k z, i[k]? = some z → t (a + k) = z ∧ z < 128) (hf : f + w.length ≤ n) (hw : ∀ k z, w[k]? = some z → t (f + k) = z ∧ z < 128) : EV ρ (d + 3) 154 0 [.ref 3, .int (nI f), .int (nI (f + w.length)), .int (nI x), zU, zU, zU, zU, zU] [] (mk c R I L) = some ([.int (bo (mt i w))], mk c R I L) := by
  have h6 := h.2.1
  have loop : ∀ (j k : Nat) (S : Int32), w.length - k = j → k ≤ w.length → (∀ b, bt S b = mB i (w.take k) b) → EV ρ (d + 3) 154 31 [.ref 3, zU, .int (nI (f + w.length)), .int (nI x), .int (nI i.length), .int ((nI 1 <<< (nI (i.length + 1) &&& 31)) - nI 1), .int S, .int (nI (f + k)), zU] [] (mk c R I L) = some ([.int (bo (mt i w))], mk c R I L) := by
    intro j
    induction j with
    | zero =>
      intro k S hj hk hS
      have e : k = w.length := by omega
      subst e
      rw [List.take_length] at hS
      rw [bPar_matches_31, if_pos (nI_le (Nat.le_refl _) (by omega))]
      unfold mt
      rw [← hS i.length]
      cases e : bt S i.length
      · rw [if_neg (fun y => by rw [(hs_b (by omega) S).mp y] at e; cases e)]; rfl
      · rw [if_pos ((hs_b (by omega) S).mpr e)]; rfl
    | succ j ih =>
      intro k S hj hk hS
      obtain ⟨z, hz⟩ : ∃ z, w[k]? = some z := ⟨w[k], List.getElem?_eq_getElem (by omega)⟩
      obtain ⟨y1, y2⟩ := hw k z hz
      have hi := fun S' (hS' : ∀ b, bt S' b = sB i z (mB i (w.take k)) b) => ih (k + 1) S' (by omega) (by omega) (fun b => by rw [tk_s hz, mB_s]; exact hS' b)
      rw [bPar_matches_31, if_neg (nI_ge (by omega) (by omega)), Tap_at_e h (by omega), zci, bPar_matches_46, y1, sb_n y2, nI_add]
      by_cases c1 : z = 42
      · rw [if_pos (by rw [c1]), Int_low_e (fun b hb => by
          apply Classical.byContradiction
          intro h12
          rw [hS b, mB_le i _ (by omega)] at hb
          cases hb), zci, bPar_matches_62, nI_add]
        exact hi _ (fun b => by rw [c1]; exact st_42 hi8 hS (fun b hb => mB_le i _ hb) b)
      · rw [if_neg (fun y => c1 ((nI_eq (by omega) (by omega)).mp y))]
        by_cases c2 : z = 63
        · rw [if_pos (by rw [c2])]
          exact hi _ (fun b => st_o c1 hi8 hS (fun b => by rw [hS b, c2]; show _ = (_ && (true || _)); rw [Bool.true_or, Bool.and_true]) b)
        · obtain ⟨P, g1, g2⟩ := Par_places_e (ρ := ρ) (d := d) (c := c) (R := R) (L := L) (cc := z) h hx y2 hi8 ha hb hn hid
          rw [if_neg (fun y => c2 ((nI_eq (by omega) (by omega)).mp y)), g1, zci, bPar_matches_99, nI_add]
          exact hi _ (fun b => st_o c1 hi8 hS (fun b => by rw [b_and, hS b, g2 b, beq_eq_false_iff_ne.mpr c2, Bool.false_or]) b)
  rw [bPar_matches_0, zidx_n hx (by decide), zidx_n hx (by decide), ha, hb, pk_sub (by omega), show a + i.length - a = i.length from by omega, nI_add]
  refine loop w.length 0 (nI 1) rfl (Nat.zero_le _) (fun b => ?_)
  show bt (nI 1) b = (b == 0)
  have : ∀ b, b < 32 → bt (nI 1) b = (b == 0) := by decide +kernel
  by_cases hb : b < 32
  · exact this b hb
  · rw [b_big (by omega)]
    exact (beq_eq_false_iff_ne.mpr (by omega)).symm
theorem Par_best_e {v : Nat} {ps : List (List Nat)} (hp : isP p) (h3 : R 3 1 = some p) (h : TC n t I) (hx : x < 12) (hv : v < 8) (hi8 : i.length ≤ 8) (hi : OnT n t i (I 4 x) (I 5 x)) (hi1 : ∀ z ∈ i, z < 128) (hp3 : ps.length ≤ 3) (hpl : I (p + 9) v = nI ps.length) (hps : ∀ a w, ps[a]? = some w → w.length ≤ 8 ∧ (∀ z ∈ w, z < 128) ∧ OnT n t w (I 6 (3 * v + a)) (I 7 (3 * v + a))) : EV ρ (d + 4) 153 0 [.ref 3, .int (nI v), .int (nI x), zU, zU, zU, zU] [] (mk c R I L) = some ([.int (eO (bsc i ps))], mk c R I L) := by
  obtain ⟨k0, o1, o2, o3, o4⟩ := hi
  have h6 := h.2.1
  have hid : ∀ k z, i[k]? = some z → t (k0 + k) = z ∧ z < 128 := fun k z hz => ⟨o4 k z hz, hi1 z (List.mem_of_getElem? hz)⟩
  have hb : ∀ m, ∀ k, bsc i (ps.take m) = some k → k < 2 ^ 30 := fun m k hk => by
    have := bsc_le (i := i) _ (ps.take m) rfl (fun w hw => by
      obtain ⟨a, ha⟩ := List.mem_iff_getElem?.mp (List.mem_of_mem_take hw)
      exact (hps a w ha).1) k hk
    omega
  have loop : ∀ (j a : Nat), ps.length - a = j → a ≤ ps.length → EV ρ (d + 4) 153 5 [.ref 3, .int (nI v), .int (nI x), .int (eO (bsc i (ps.take a))), .int (nI a), zU, zU] [] (mk c R I L) = some ([.int (eO (bsc i ps))], mk c R I L) := by
    intro j
    induction j with
    | zero =>
      intro a hj ha
      have e : a = ps.length := by omega
      subst e
      rw [bPar_bestScore_5, h3, zrs, zob (xp_o hp), xp_F11 hp, zrs, zar (xp_a9 hp), zidx_n hv (by decide), hpl, if_pos (nI_le (Nat.le_refl _) (by omega)), List.take_length]
    | succ j ih =>
      intro a hj ha
      obtain ⟨w, hw⟩ : ∃ w, ps[a]? = some w := ⟨ps[a], List.getElem?_eq_getElem (by omega)⟩
      obtain ⟨y1, y2, k1, y3, y4, y5, y6⟩ := hps a w hw
      have hi := ih (a + 1) (by omega) (by omega)
      rw [tk_s hw, bsc_s] at hi
      rw [bPar_bestScore_5, h3, zrs, zob (xp_o hp), xp_F11 hp, zrs, zar (xp_a9 hp), zidx_n hv (by decide), hpl, if_neg (nI_ge (by omega) (by omega)), pk_mul, nI_add, zidx_n (by omega) (by decide), zidx_n (by omega) (by decide), Nat.mul_comm v 3, y3, y4, Par_matches_e h hx hi8 o1 o2 o3 hid y5 (fun k z hz => ⟨y6 k z hz, y2 z (List.mem_of_getElem? hz)⟩), zci, bPar_bestScore_54, nI_add]
      by_cases c1 : mt i w = true
      · rw [if_pos c1] at hi
        have h3' := List.countP_le_length (p := isLi) (l := w)
        rw [c1, if_neg (by decide), Par_literals_e (d := d + 1) h (by omega) y5, zci, OnT_slc (n := n) y6, bPar_bestScore_66, bMat_max_0]
        rw [← up1_e _ _ (hb a) (by omega)] at hi
        by_cases c2 : nI (w.countP isLi) ≤ eO (bsc i (ps.take a))
        · rw [if_pos c2] at hi
          rw [if_neg (Int32.not_lt.mpr c2), zci, bPar_bestScore_69, nI_add]; exact hi
        · rw [if_neg c2] at hi
          rw [if_pos (Int32.not_le.mp c2), zci, bPar_bestScore_69, nI_add]; exact hi
      · have c1' : mt i w = false := by rw [Bool.eq_false_iff]; exact c1
        rw [if_neg c1] at hi
        rw [c1', if_pos (by decide)]
        exact hi
  rw [bPar_bestScore_0]
  exact loop ps.length 0 rfl (Nat.zero_le _)
end CSCORE
