-- CALLS THAT CHANGE WHAT STANDS, in the reference (remove, unload)
noncomputable def pUnl (P : PT) (T : TT) (v : Int32) : Int32 × TT := if inN v P.1.2.1 = true ∧ bt T.2.2.1.2 v.toNatClampNeg = true then (nI (tUnl P T v.toNatClampNeg).2.length, tSync P (tUnl P T v.toNatClampNeg).1) else (-1, T)
theorem tAway_1 (P : PT) (W : TT × List Nat) (x : Nat) : (tAway P W x).1 = (tAway P (W.1, []) x).1 := by
  unfold tAway
  split
  · rw [tLet_g P 13 W x]
  · rfl
section MOPS3
variable {ρ : Nat × (Nat → Int32)} {d : Nat} {c : Nat × Nat} {R : Nat → Nat → Option Nat} {I : Nat → Nat → Int32} {L : Nat → Nat → Int64} {P : PT} {sd : Nat} {T : TT}
theorem M_away (h : MX P sd T I) (hT : IV P T) {x : Nat} (hx : x < P.1.1) (h3 : T.1.1.1.1 x ≠ 3) : ∃ J, EV ρ (d + 19) 66 17 [.ref 257, .int (nI x)] [] (mk c R I L) = some ([], mk c R J L) ∧ MX P sd (tAwy T x) J ∧ FX I J := by
  have hV := h.1
  have h12 := hV.1
  have hb := hT.1.1.bnd hV
  obtain ⟨s, q1, q2⟩ := M_leavesRow_e (ρ := ρ) (d := d + 16) (c := c) (R := R) (L := L) h.2.2 hb (hT.1.1.row hV) (show x < 12 by omega)
  have e0 : ∀ (K : Nat → Nat → Int32) j w, z2 K 274 j w = va_up K 274 (va_up (K 274) j w) := fun _ _ _ => rfl
  have g1 := MR_st (T := u_row T (T.1.2.1.2.filter (· ≠ x))) (show x < 12 by omega) h3 (v := 0) (by decide) q2
  have g2 := MR_re (show x < 12 by omega) (nI 0) g1 hb
  have g3 := MR_ca (show x < 12 by omega) (-1) g2 hb
  rw [bM_goesAway_17, q1, zcv, bM_goesAway_22, nI_add, Nat.zero_add, zidx_n (by omega) (by decide), e0, bx_uu, va_s, bM_goesAway_31, nI_add, zidx_n (by omega) (by decide), z2_u, bM_goesAway_41, nI_add, zidx_n (by omega) (by decide), z2_u, bM_goesAway_51]
  exact ⟨_, rfl, MX_up h g3, FX.rf.up _⟩
theorem M_goesAway_e (h : MX P sd T I) (hT : IV P T) (hc : T.2.2.2.2 < 2 ^ 31) {x : Nat} (hx : x < P.1.1) (hg : GM I []) : ∃ J, EV ρ (d + 19) 66 0 [.ref 257, .int (nI x)] [] (mk c R I L) = some ([], mk c R J L) ∧ MX P sd (tAway P (T, []) x).1 J ∧ FX I J := by
  have hV := h.1
  have h12 := hV.1
  have hs := hT.1.1.1 x
  rw [bM_goesAway_0, nI_add, Nat.zero_add, zidx_n (by omega) (by decide), (h.2.2.1 x (by omega)).1]
  unfold tAway
  by_cases e3 : T.1.1.1.1 x = 3
  · rw [if_pos (by rw [e3]), if_pos e3]
    obtain ⟨A, B, hb, hn⟩ := bnd_at hV hT.1.1 hx e3
    obtain ⟨k0, k1, k2, k3, k8, k9, k10, k11, k12, k13, k14⟩ := tLet_v (W := (T, [])) hV hT hb hn
    obtain ⟨J, g1, g2, g3, g4⟩ := M_letsGo_e (ρ := ρ) (d := d) (c := c) (R := R) (L := L) h hT hc hx e3 hg
    obtain ⟨K, q1, q2, q3⟩ := M_away (ρ := ρ) (d := d) (c := c) (R := R) (L := L) g2 k0 hx (by rw [k13]; decide)
    rw [g1, zcv, q1]
    exact ⟨K, rfl, q2, g4.tr q3⟩
  · rw [if_neg (by rw [nI_eq (by omega) (by decide)]; exact e3), if_neg e3]
    exact M_away h hT hx e3
theorem M_isBelow_l (h : MX P sd T I) {x : Nat} (hx : x < P.1.1) : ∀ (n k : Nat), k ≤ n → k < P.1.1 → EV ρ (d + 3) 68 6 [.ref 257, zU, .int (nI x), .int (nI k)] [] (mk c R I L) = some ([.int (bo (und P x n k))], mk c R I L) := by
  have hV := h.1
  have h12 := hV.1
  intro n
  induction n with
  | zero =>
    intro k hk hkn
    obtain rfl : k = 0 := by omega
    rw [bM_isBelow_6, if_neg (nI_pos (by omega))]
    unfold und
    by_cases e : 0 = x
    · rw [if_pos (by rw [e]), decide_eq_true e]; rfl
    · have ep : P.2.1 0 = none := by
        cases ep : P.2.1 0 with
        | none => rfl
        | some y => have := hV.2.2.2.1 0 hkn y ep; omega
      rw [if_neg (by rw [nI_eq (by omega) (by omega)]; exact e), M_parentOf_e h.2.1 hV hkn, zci, bM_isBelow_22, bM_isBelow_6, ep, if_pos (by decide), decide_eq_false e]; rfl
  | succ n ih =>
    intro k hk hkn
    rw [bM_isBelow_6, if_neg (nI_pos (by omega))]
    unfold und
    by_cases e : k = x
    · rw [if_pos (by rw [e]), decide_eq_true e]; rfl
    · rw [if_neg (by rw [nI_eq (by omega) (by omega)]; exact e), M_parentOf_e h.2.1 hV hkn, zci, bM_isBelow_22, decide_eq_false e, Bool.false_or]
      cases ep : P.2.1 k with
      | none => rw [bM_isBelow_6, if_pos (by decide)]; rfl
      | some y =>
        have := hV.2.2.2.1 k hkn y ep
        exact ih y (by omega) (by omega)
theorem M_isBelow_e (h : MX P sd T I) {x y : Nat} (hx : x < P.1.1) (hy : y < P.1.1) : EV ρ (d + 3) 68 0 [.ref 257, .int (nI y), .int (nI x), zU] [] (mk c R I L) = some ([.int (bo (decide (y ≠ x) && und P x 12 y))], mk c R I L) := by
  have hV := h.1
  have h12 := hV.1
  rw [bM_isBelow_0, M_parentOf_e h.2.1 hV hy, zci, bM_isBelow_5]
  by_cases e : y = x
  · subst e
    have e1 : (decide (y ≠ y) && und P y 12 y) = false := by simp
    rw [e1]
    cases ep : P.2.1 y with
    | none => rw [bM_isBelow_6, if_pos (by decide)]; rfl
    | some k =>
      have := hV.2.2.2.1 y hy k ep
      rw [eO_s, M_isBelow_l h hx 11 k (by omega) (by omega), und_lt hV 11 k (by omega) (by omega)]
  · have e1 : (decide (y ≠ x) && und P x 12 y) = (match P.2.1 y with
        | none => false
        | some k => und P x 11 k) := by
      rw [decide_eq_true e, Bool.true_and]
      show (decide (y = x) || _) = _
      rw [decide_eq_false e, Bool.false_or]
      cases P.2.1 y <;> rfl
    rw [e1]
    cases ep : P.2.1 y with
    | none => rw [bM_isBelow_6, if_pos (by decide)]; rfl
    | some k =>
      have := hV.2.2.2.1 y hy k ep
      rw [eO_s, M_isBelow_l h hx 11 k (by omega) (by omega)]
theorem m1_s (x : Int32) : x + (-1) = x - nI 1 := by rw [Int32.sub_eq_add_neg]; rfl
theorem rgr_s (k : Nat) : (List.range (k + 1)).reverse = k :: (List.range k).reverse := by
  rw [List.range_succ, List.reverse_append, List.reverse_singleton, List.singleton_append]
theorem M_remove_l {x : Nat} (hx : x < P.1.1) : ∀ (k : Nat) (W : (TT × List Nat) × Nat) (I : Nat → Nat → Int32), k ≤ P.1.1 → MX P sd W.1.1 I → IV P W.1.1 → W.1.1.2.2.2.2 < 2 ^ 31 → ∃ J, EV ρ (d + 30) 69 40 [.ref 257, .int (nI x), .int (nI W.2), .int (nI k - nI 1)] [] (mk c R I L) = EV ρ (d + 30) 69 91 [.ref 257, .int (nI x), .int (nI (tRn P x (List.range k).reverse W).2), zU] [] (mk c R (z2 J 257 33 (nI 0)) L) ∧ MX P sd (tRn P x (List.range k).reverse W).1.1 J ∧ FX I J ∧ IV P (tRn P x (List.range k).reverse W).1.1 ∧ (tRn P x (List.range k).reverse W).1.1.2.2.2.2 = W.1.1.2.2.2.2 := by
  intro k
  induction k with
  | zero =>
    intro W I hk h hT hc
    rw [bM_remove_40, if_pos (by decide)]
    exact ⟨I, rfl, h, FX.rf, hT, rfl⟩
  | succ k ih =>
    intro W I hk h hT hc
    have hV := h.1
    have h12 := hV.1
    have hkn : k < P.1.1 := by omega
    have hs := hT.1.1.1 k
    rw [pk_sub (by omega), show k + 1 - 1 = k from rfl, rgr_s, bM_remove_40, if_neg (nI_pos (by omega)), nI_add 0 k, Nat.zero_add, zidx_n (by omega) (by decide), (h.2.2.1 k (by omega)).1, m1_s]
    unfold tRn
    by_cases e0 : W.1.1.1.1.1.1 k = 0
    · rw [if_pos ((nn1 (by omega)).mpr e0), if_neg (fun z => z.1 e0)]
      exact ih W I (by omega) h hT hc
    · rw [if_neg (fun z => e0 ((nn1 (by omega)).mp z)), M_isBelow_e h hx hkn, zci, bM_remove_61, m1_s]
      cases eu : (decide (k ≠ x) && und P x 12 k) with
      | false =>
        rw [if_pos (by decide), if_neg (fun z => by
          rw [decide_eq_true z.2.1, z.2.2] at eu
          cases eu)]
        exact ih W I (by omega) h hT hc
      | true =>
        have eu2 := Bool.and_eq_true_iff.mp eu
        rw [if_neg (by decide), if_pos ⟨e0, of_decide_eq_true eu2.1, eu2.2⟩, bM_remove_72]
        have h1 := MX_z2 (j := 33) (v := nI 0) h (by decide)
        obtain ⟨J, g1, g2, g3⟩ := M_goesAway_e (ρ := ρ) (d := d + 10) (c := c) (R := R) (L := L) h1 hT hc hkn GM_0
        rw [← tAway_1] at g2
        obtain ⟨f1, f2, -⟩ := tAway_v hV hT hkn
        rw [g1, zcv, bM_remove_77, nI_add W.2 1, m1_s]
        obtain ⟨J2, k1, k2, k3, k4, k5⟩ := ih (tAway P W.1 k, W.2 + 1) J (by omega) g2 f1 (by rw [f2]; exact hc)
        exact ⟨J2, k1, k2, ((FX.rf.z2 (by omega)).tr g3).tr k3, k4, k5.trans f2⟩
theorem M_remove_e (h : MX P sd T I) (hT : IV P T) (hc : T.2.2.2.2 + 24 < 2 ^ 30) (v : Int32) : ∃ J, EV ρ (d + 30) 69 0 [.ref 257, .int v, zU, zU] [] (mk c R I L) = some ([.int (pRemv P T v).1], mk c R J L) ∧ MX P sd (pRemv P T v).2 J ∧ FT I J := by
  have hV := h.1
  have h12 := hV.1
  have h1 := MX_z2 (j := 2) (v := nI 0) h (by decide)
  have hF1 : FT I (z2 I 257 2 (nI 0)) := FT.rf.z2 (Or.inl rfl)
  rw [bM_remove_0, bM_remove_5, M_isDevice_e h1.2.1 h12, zci, bM_remove_10]
  unfold pRemv
  by_cases hi : inN v P.1.1 = true
  · obtain ⟨x, hx, rfl⟩ := (inN_iff (by omega)).mp hi
    have hs := hT.1.1.1 x
    rw [nI_clamp (by omega), hi, if_neg (by decide), nI_add, Nat.zero_add, zidx_n (by omega) (by decide), (h1.2.2.1 x (by omega)).1]
    by_cases e0 : T.1.1.1.1 x = 0
    · rw [if_pos ((nn1 (by omega)).mpr e0), if_neg (fun z => z.2 e0)]
      exact ⟨_, rfl, h1, hF1⟩
    · have h2 := MX_z2 (j := 33) (v := nI 0) h1 (by decide)
      have hF2 : FT I (z2 (z2 I 257 2 (nI 0)) 257 33 (nI 0)) := hF1.z2 (by omega)
      rw [if_neg (fun z => e0 ((nn1 (by omega)).mp z)), bM_remove_33, M_devices_e h2.2.1, zci, bM_remove_37, if_pos ⟨rfl, e0⟩]
      obtain ⟨J, g1, g2, g3, g4, g5⟩ := M_remove_l (ρ := ρ) (d := d) (c := c) (R := R) (L := L) hx P.1.1 ((T, []), 0) _ (Nat.le_refl _) h2 hT (by show T.2.2.2.2 < 2 ^ 31; omega)
      have h3 := MX_z2 (j := 33) (v := nI 0) g2 (by decide)
      obtain ⟨J2, k1, k2, k3⟩ := M_goesAway_e (ρ := ρ) (d := d + 10) (c := c) (R := R) (L := L) h3 g4 (by rw [g5]; show T.2.2.2.2 < 2 ^ 31; omega) hx GM_0
      rw [← tAway_1] at k2
      obtain ⟨f1, -⟩ := tAway_v hV g4 hx
      obtain ⟨K, q1, q2, q3, q4⟩ := M_syncs_e (ρ := ρ) (d := d + 25) (c := c) (R := R) (L := L) k2 f1.1.1
      rw [g1, bM_remove_91, k1, zcv, bM_remove_96, q1, zcv, bM_remove_100, nI_add, tRemv_n hV hx e0]
      exact ⟨K, rfl, q2, ((hF2.tr g3.t).z2 (by omega)).tr (k3.t.tr q3.t)⟩
  · rw [Bool.eq_false_iff.mpr hi, if_pos (by decide), if_neg (fun z => by cases z.1)]
    exact ⟨_, rfl, h1, hF1⟩
theorem M_boundTo_l (h : MX P sd T I) (hT : TI P T) {v : Nat} (hv : v < P.1.2.1) : ∀ (n k : Nat) (S : Int32), k + n = P.1.1 → (∀ j, bt S j = true ↔ j < k ∧ T.1.1.1.1 j = 3 ∧ T.1.1.1.2 j = v) → ∃ S', EV ρ (d + 2) 73 4 [.ref 257, .int (nI v), .int S, .int (nI k)] [] (mk c R I L) = some ([.int S'], mk c R I L) ∧ ∀ j, bt S' j = true ↔ j < P.1.1 ∧ T.1.1.1.1 j = 3 ∧ T.1.1.1.2 j = v := by
  have h12 := h.1.1
  have h8 := h.1.2.1
  intro n
  induction n with
  | zero =>
    intro k S hk hS
    obtain rfl : k = P.1.1 := by omega
    exact ⟨S, by rw [bM_boundTo_4, M_devices_e h.2.1, zci, bM_boundTo_9, if_pos (nI_le (by omega) (by omega))], hS⟩
  | succ n ih =>
    intro k S hk hS
    have hs := hT.1.1 k
    have skip : ¬ (T.1.1.1.1 k = 3 ∧ T.1.1.1.2 k = v) → ∀ j, bt S j = true ↔ j < k + 1 ∧ T.1.1.1.1 j = 3 ∧ T.1.1.1.2 j = v := fun hn j => by
      rw [hS j]
      constructor
      · exact fun z => ⟨by omega, z.2⟩
      · rintro ⟨z1, z2⟩
        refine ⟨?_, z2⟩
        by_cases e : j = k
        · subst e; exact absurd z2 hn
        · omega
    have add : T.1.1.1.1 k = 3 ∧ T.1.1.1.2 k = v → ∀ j, bt (S ||| (nI 1 <<< (nI k &&& 31))) j = true ↔ j < k + 1 ∧ T.1.1.1.1 j = 3 ∧ T.1.1.1.2 j = v := fun hy j => by
      rw [b_or, Bool.or_eq_true, hS j, b_bit (by omega), decide_eq_true_eq]
      constructor
      · rintro (z | z)
        · exact ⟨by omega, z.2⟩
        · rw [z]; exact ⟨by omega, hy⟩
      · rintro ⟨z1, z2⟩
        by_cases e : j = k
        · exact Or.inr e
        · exact Or.inl ⟨by omega, z2⟩
    rw [bM_boundTo_4, M_devices_e h.2.1, zci, bM_boundTo_9, if_neg (nI_ge (by omega) (by omega)), nI_add 0 k, Nat.zero_add, zidx_n (by omega) (by decide), (h.2.2.1 k (by omega)).1, nI_add k 1]
    by_cases e3 : T.1.1.1.1 k = 3
    · have hb := (hT.2.2 k e3).1
      rw [if_pos (by rw [e3]), nI_add, zidx_n (by omega) (by decide), (h.2.2.1 k (by omega)).2, if_pos e3]
      by_cases ev : T.1.1.1.2 k = v
      · rw [if_pos (by rw [ev])]
        exact ih (k + 1) _ (by omega) (add ⟨e3, ev⟩)
      · rw [if_neg (by rw [nI_eq (by omega) (by omega)]; exact ev)]
        exact ih (k + 1) S (by omega) (skip (fun z => ev z.2))
    · rw [if_neg (by rw [nI_eq (by omega) (by decide)]; exact e3)]
      exact ih (k + 1) S (by omega) (skip (fun z => e3 z.1))
theorem M_boundTo_e (h : MX P sd T I) (hT : TI P T) {v : Nat} (hv : v < P.1.2.1) : ∃ S, EV ρ (d + 2) 73 0 [.ref 257, .int (nI v), zU, zU] [] (mk c R I L) = some ([.int S], mk c R I L) ∧ ∀ j, bt S j = true ↔ j < P.1.1 ∧ T.1.1.1.1 j = 3 ∧ T.1.1.1.2 j = v := by
  rw [bM_boundTo_0]
  refine M_boundTo_l h hT hv P.1.1 0 (nI 0) (by omega) (fun j => ?_)
  have : bt (nI 0) j = false := b_0 j
  rw [this]
  exact ⟨fun z => (by cases z), fun z => by omega⟩
theorem M_latB (h : MX P sd T I) (hT : TI P T) (hc : T.2.2.2.2 < 2 ^ 31) {v : Nat} {S : Int32} (hS : ∀ j, bt S j = true ↔ j < P.1.1 ∧ T.1.1.1.1 j = 3 ∧ T.1.1.1.2 j = v) : EV ρ (d + 2) 63 0 [.ref 257, .int S, zU, zU] [] (mk c R I L) = some ([.int (eO (latB T v))], mk c R I L) := by
  rw [M_latest_e h hT.1 hc (fun j hj => (hT.1.2.2.1.2 j).mpr ⟨((hS j).mp hj).1, ((hS j).mp hj).2.1⟩)]
  unfold latB
  rw [find_cg (q := fun x => decide (T.1.1.1.2 x = v)) (fun y hy => ?_)]
  have hy2 := (hT.1.2.2.1.2 y).mp (List.mem_reverse.mp hy)
  rw [Bool.eq_iff_iff, hS y, decide_eq_true_eq]
  exact ⟨fun z => z.2.2, fun z => ⟨hy2.1, hy2.2, z⟩⟩
theorem M_unload_w {v : Nat} (hv : v < P.1.2.1) (S : Int32) : ∀ (n : Nat) (W : TT × List Nat) (I : Nat → Nat → Int32), MX P sd W.1 I → IV P W.1 → W.1.2.2.2.2 < 2 ^ 31 → (its W.1 v).length ≤ n → ∃ J, EV ρ (d + 30) 74 54 [.ref 257, .int (nI v), .int S, .int (nI W.2.length), .int (eO (latB W.1 v))] [] (mk c R I L) = EV ρ (d + 30) 74 94 [.ref 257, zU, .int S, .int (nI (tWm P v n W).2.length), .int (nI 0)] [] (mk c R J L) ∧ MX P sd (tWm P v n W).1 J ∧ FX I J := by
  intro n
  induction n with
  | zero =>
    intro W I h hT hc hn
    have e : latB W.1 v = none := by
      cases e : latB W.1 v with
      | none => rfl
      | some x =>
        have : x ∈ its W.1 v := List.mem_filter.mpr ⟨(latB_s e).1, by simpa using (latB_s e).2⟩
        rw [List.length_eq_zero_iff.mp (show (its W.1 v).length = 0 by omega)] at this
        cases this
    rw [e, bM_unload_54, if_pos (by decide)]
    exact ⟨I, rfl, h, FX.rf⟩
  | succ n ih =>
    intro W I h hT hc hn
    have hV := h.1
    have h12 := hV.1
    unfold tWm
    cases e : latB W.1 v with
    | none =>
      rw [bM_unload_54, if_pos (by decide)]
      exact ⟨I, rfl, h, FX.rf⟩
    | some x =>
      dsimp only
      have hx := (hT.1.1.2.2.1.2 x).mp (latB_s e).1
      have h1 := MX_z2 (j := 33) (v := nI 0) h (by decide)
      obtain ⟨k1, k2, k3, k4⟩ := latB_its hV hT e
      obtain ⟨A, B, hb, hbn⟩ := bnd_at hV hT.1.1 hx.1 hx.2
      have kc : (tLet P 13 W x).1.2.2.2.2 = W.1.2.2.2.2 := (tLet_v hV hT hb hbn).2.2.2.2.1
      obtain ⟨J, g1, g2, g3, g4⟩ := M_letsGo_e (ρ := ρ) (d := d + 11) (c := c) (R := R) (L := L) h1 hT hc hx.1 hx.2 GM_0
      have eg := tLet_g P 13 W x
      have eg1 : (tLet P 13 (W.1, []) x).1 = (tLet P 13 W x).1 := by rw [eg]
      have eg2 : W.2.length + (tLet P 13 (W.1, []) x).2.length = (tLet P 13 W x).2.length := by rw [eg]; simp
      rw [eg1] at g2
      obtain ⟨S2, s1, s2⟩ := M_boundTo_e (ρ := ρ) (d := d + 27) (c := c) (R := R) (L := L) g2 k3.1 hv
      rw [bM_unload_54, eO_s, if_neg (nI_pos (by omega)), bM_unload_64, g1, zcv, bM_unload_70, g3.1, nI_add, eg2, s1, zci, bM_unload_83, M_latB g2 k3.1 (by rw [kc]; exact hc) s2, zci, bM_unload_86]
      obtain ⟨J2, q1, q2, q3⟩ := ih (tLet P 13 W x) J g2 k3 (by rw [kc]; exact hc) (by omega)
      exact ⟨J2, q1, q2, ((FX.rf.z2 (by omega)).tr g4).tr q3⟩
theorem M_unload_i {S : Int32} {N : Nat} (hV : PV P) {D : List Nat} (hD : ∀ j, bt S j = true ↔ j ∈ D) (hDn : ∀ j ∈ D, j < P.1.1) {U : TT} (hU : IV P U) (hn3 : ∀ y ∈ D, U.1.1.1.1 y ≠ 3) : ∀ (n k : Nat) (I : Nat → Nat → Int32), k + n = P.1.1 → MX P sd (idl ((List.range k).filter (fun y => decide (y ∈ D))) U) I → IV P (idl ((List.range k).filter (fun y => decide (y ∈ D))) U) → ∃ J, EV ρ (d + 30) 74 94 [.ref 257, zU, .int S, .int (nI N), .int (nI k)] [] (mk c R I L) = zcV (EV ρ (d + 29) 62 0 [.ref 257, zU] [] (mk c R J L)) (fun s1 => EV ρ (d + 30) 74 128 [zU, zU, zU, .int (nI N), zU] [] s1) ∧ MX P sd (idl D U) J ∧ FX I J ∧ IV P (idl D U) := by
  have h12 := hV.1
  intro n
  induction n with
  | zero =>
    intro k I hk h hT
    obtain rfl : k = P.1.1 := by omega
    have e : idl ((List.range P.1.1).filter (fun y => decide (y ∈ D))) U = idl D U := idl_cg _ (fun y => by
      rw [List.mem_filter, List.mem_range, decide_eq_true_eq]
      exact ⟨fun z => z.2, fun z => ⟨hDn y z, z⟩⟩)
    rw [e] at h hT
    rw [bM_unload_94, M_devices_e h.2.1, zci, bM_unload_100, if_pos (nI_le (by omega) (by omega))]
    exact ⟨I, rfl, h, FX.rf, hT⟩
  | succ n ih =>
    intro k I hk h hT
    rw [bM_unload_94, M_devices_e h.2.1, zci, bM_unload_100, if_neg (nI_ge (by omega) (by omega)), M_has_e _ (by omega), zci, bM_unload_109]
    cases eb : bt S k with
    | false =>
      have hk0 : k ∉ D := fun z => by rw [(hD k).mpr z] at eb; cases eb
      have e : (List.range (k + 1)).filter (fun y => decide (y ∈ D)) = (List.range k).filter (fun y => decide (y ∈ D)) := by
        rw [List.range_succ, List.filter_append, List.filter_cons_of_neg (by simpa using hk0)]
        simp
      rw [if_pos (by decide), bM_unload_118, nI_add]
      exact ih (k + 1) I (by omega) (by rw [e]; exact h) (by rw [e]; exact hT)
    | true =>
      have hk1 : k ∈ D := (hD k).mp eb
      have e : (List.range (k + 1)).filter (fun y => decide (y ∈ D)) = (List.range k).filter (fun y => decide (y ∈ D)) ++ [k] := by
        rw [List.range_succ, List.filter_append, List.filter_cons_of_pos (by simpa using hk1)]
        simp
      have h3 : (idl ((List.range k).filter (fun y => decide (y ∈ D))) U).1.1.1.1 k ≠ 3 := by
        show (if k ∈ (List.range k).filter (fun y => decide (y ∈ D)) then 1 else U.1.1.1.1 k) ≠ 3
        split
        · decide
        · exact hn3 k hk1
      obtain ⟨s, r1, r2⟩ := M_idles_e (ρ := ρ) (d := d + 26) (c := c) (R := R) (L := L) h.2.2 (hT.1.1.bnd hV) (hT.1.1.row hV) (show k < 12 by omega) h3
      have hI := IV_idle hT h3
      rw [idl_idle, ← e] at r2 hI
      rw [if_neg (by decide), r1, zcv, bM_unload_118, nI_add]
      obtain ⟨J, q1, q2, q3, q4⟩ := ih (k + 1) (va_up I 274 s) (by omega) (MX_up h r2) hI
      exact ⟨J, q1, q2, (FX.rf.up s).tr q3, q4⟩
theorem M_unload_e (h : MX P sd T I) (hT : IV P T) (hc : T.2.2.2.2 + 24 < 2 ^ 30) (v : Int32) : ∃ J, EV ρ (d + 30) 74 0 [.ref 257, .int v, zU, zU, zU] [] (mk c R I L) = some ([.int (pUnl P T v).1], mk c R J L) ∧ MX P sd (pUnl P T v).2 J ∧ FT I J := by
  have hV := h.1
  have h12 := hV.1
  have h8 := hV.2.1
  have h1 := MX_z2 (j := 2) (v := nI 0) h (by decide)
  have hF1 : FT I (z2 I 257 2 (nI 0)) := FT.rf.z2 (Or.inl rfl)
  have e1 : z2 I 257 2 (nI 0) 274 = I 274 := z2_ne (by decide)
  rw [bM_unload_0, bM_unload_5, M_isDriver_e h1.2.1 h8, zci, bM_unload_10]
  unfold pUnl
  by_cases hi : inN v P.1.2.1 = true
  · obtain ⟨r, hr, rfl⟩ := (inN_iff (by omega)).mp hi
    rw [nI_clamp (by omega), hi, if_neg (by decide), M_isLoaded_e h1.2.2 (by omega), zci, bM_unload_18]
    cases el : bt T.2.2.1.2 r with
    | false =>
      rw [if_pos (by decide), if_neg (fun z => by cases z.2)]
      exact ⟨_, rfl, h1, hF1⟩
    | true =>
      have e2 : z2 I 257 2 (nI 0) 274 441 = T.2.2.1.2 := by rw [e1]; exact h.2.2.2.2.1.2.2.2
      have e3 : ∀ w, z2 (z2 I 257 2 (nI 0)) 274 441 w = va_up (z2 I 257 2 (nI 0)) 274 (va_up (I 274) 441 w) := fun w => by rw [← e1]; rfl
      rw [if_neg (by decide), e2, e3, if_pos ⟨rfl, rfl⟩]
      generalize hLD : T.2.2.1.2 &&& ((nI 1 <<< (nI r &&& 31)) ^^^ (-1)) = LD
      have hT0 : IV P (u_ld T LD) := IV_ld hT
      have h2 : MX P sd (u_ld T LD) (va_up (z2 I 257 2 (nI 0)) 274 (va_up (I 274) 441 LD)) := MX_up h1 (MR_ld _ h.2.2 (hT.1.1.bnd hV))
      have hF2 : FT I (va_up (z2 I 257 2 (nI 0)) 274 (va_up (I 274) 441 LD)) := hF1.up _
      obtain ⟨S, s1, s2⟩ := M_boundTo_e (ρ := ρ) (d := d + 27) (c := c) (R := R) (L := L) h2 hT0.1 hr
      have hcc : (u_ld T LD).2.2.2.2 < 2 ^ 31 := by show T.2.2.2.2 < 2 ^ 31; omega
      obtain ⟨t1, t2, t3, t4⟩ := tUnl_m (v := r) hV hT0
      have hl : (its (u_ld T LD) r).length ≤ 12 := Nat.le_trans (List.length_filter_le _ _) (bnd_12 hV hT0.1.1)
      obtain ⟨J, g1, g2, g3⟩ := M_unload_w (ρ := ρ) (d := d) (c := c) (R := R) (L := L) hr S 12 (u_ld T LD, []) _ h2 hT0 hcc hl
      have hD : ∀ j, bt S j = true ↔ j ∈ its (u_ld T LD) r := fun j => by
        rw [s2 j]
        unfold its
        rw [List.mem_filter, hT0.1.1.2.2.1.2 j, decide_eq_true_eq]
        exact ⟨fun z => ⟨⟨z.1, z.2.1⟩, z.2.2⟩, fun z => ⟨z.1.1, z.1.2, z.2⟩⟩
      obtain ⟨J2, q1, q2, q3, q4⟩ := M_unload_i (ρ := ρ) (d := d) (c := c) (R := R) (L := L) (N := (tWm P r 12 (u_ld T LD, [])).2.length) hV hD (fun j hj => ((hT0.1.1.2.2.1.2 j).mp (List.mem_filter.mp hj).1).1) t3 t4 P.1.1 0 J (by omega) (by rw [show (List.range 0).filter (fun y => decide (y ∈ its (u_ld T LD) r)) = [] from rfl, idl_nil]; exact g2) (by rw [show (List.range 0).filter (fun y => decide (y ∈ its (u_ld T LD) r)) = [] from rfl, idl_nil]; exact t3)
      obtain ⟨K, p1, p2, p3, p4⟩ := M_syncs_e (ρ := ρ) (d := d + 25) (c := c) (R := R) (L := L) q2 q4.1.1
      have g1' : EV ρ (d + 30) 74 54 [.ref 257, .int (nI r), .int S, .int (nI 0), .int (eO (latB (u_ld T LD) r))] [] (mk c R (va_up (z2 I 257 2 (nI 0)) 274 (va_up (I 274) 441 LD)) L) = EV ρ (d + 30) 74 94 [.ref 257, zU, .int S, .int (nI (tWm P r 12 (u_ld T LD, [])).2.length), .int (nI 0)] [] (mk c R J L) := g1
      rw [bM_unload_39, s1, zci, bM_unload_44, M_latB h2 hT0.1 hcc s2, zci, bM_unload_52, g1', q1, p1, zcv, bM_unload_128]
      unfold tUnl
      rw [hLD, t1]
      exact ⟨K, rfl, p2, (hF2.tr g3.t).tr (q3.t.tr p3.t)⟩
  · rw [Bool.eq_false_iff.mpr hi, if_pos (by decide), if_neg (fun z => by cases z.1)]
    exact ⟨_, rfl, h1, hF1⟩
end MOPS3
