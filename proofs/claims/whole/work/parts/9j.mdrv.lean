-- THE REFERENCE READS: a driver
section MDRV
variable {ρ : Nat × (Nat → Int32)} {d : Nat} {c : Nat × Nat} {R : Nat → Nat → Option Nat} {I J : Nat → Nat → Int32} {L L' : Nat → Nat → Int64} {n : Nat} {t : Nat → Nat} {sd m u b : Nat} {Q Q' : QT} {K : Tk} {e : Nat}
theorem RM_pt {w : List Nat} (hB : QB Q) (hl : (Q.2.2.2.2.2.2.2.1 Q.1.2.1).length < 3) (hw : w.length ≤ 8) (h : RM m u Q b I L) (hJ : ∀ q j, q ≠ 257 → ¬ (q = 268 ∧ 8 * (3 * (8 * b + Q.1.2.1) + (Q.2.2.2.2.2.2.2.1 Q.1.2.1).length) ≤ j ∧ j < 8 * (3 * (8 * b + Q.1.2.1) + (Q.2.2.2.2.2.2.2.1 Q.1.2.1).length) + 8) → J q j = I q j) (hL : ∀ q, q ≠ 257 → L' q = L q) (hJi : ∀ k z, w[k]? = some z → J 268 (8 * (3 * (8 * b + Q.1.2.1) + (Q.2.2.2.2.2.2.2.1 Q.1.2.1).length) + k) = nI z) :
    RM m u (yPt Q w) b (z2 (z2 J 269 (3 * (8 * b + Q.1.2.1) + (Q.2.2.2.2.2.2.2.1 Q.1.2.1).length) (nI w.length)) 267 (8 * b + Q.1.2.1) (nI ((Q.2.2.2.2.2.2.2.1 Q.1.2.1).length + 1))) L' := by
  have hc : ∀ q, q ≠ 257 → q ≠ 268 → J q = I q := fun q h1 h2 => by funext j; exact hJ q j h1 (by omega)
  obtain ⟨h1, h2, h3, h4, h5, h6, h7⟩ := h
  refine ⟨?_, ?_, ?_, ?_, ?_, fun v hv => ?_, ?_⟩
  · unfold RMc at h1 ⊢; rw [z2_ne (by decide), z2_ne (by decide), hc 259 (by decide) (by decide)]; exact h1
  · unfold RMn at h2 ⊢; rw [hL 260 (by decide), hL 266 (by decide), hL 273 (by decide)]; exact h2
  · unfold RMi at h3 ⊢; rw [z2_ne (by decide), z2_ne (by decide), hc 262 (by decide) (by decide), z2_ne (by decide), z2_ne (by decide), hc 261 (by decide) (by decide)]; exact h3
  · unfold RMp at h4 ⊢; rw [z2_ne (by decide), z2_ne (by decide), hc 263 (by decide) (by decide)]; exact h4
  · unfold RMe at h5 ⊢; rw [z2_ne (by decide), z2_ne (by decide), hc 264 (by decide) (by decide), z2_ne (by decide), z2_ne (by decide), hc 265 (by decide) (by decide)]; exact h5
  · obtain ⟨g1, g2⟩ := h6 v hv
    show _ = nI (va_up Q.2.2.2.2.2.2.2.1 Q.1.2.1 (Q.2.2.2.2.2.2.2.1 Q.1.2.1 ++ [w]) v).length ∧ ∀ i w', (va_up Q.2.2.2.2.2.2.2.1 Q.1.2.1 (Q.2.2.2.2.2.2.2.1 Q.1.2.1 ++ [w]) v)[i]? = some w' → _
    by_cases ev : v = Q.1.2.1
    · subst ev
      rw [va_up_self, z2_at]
      refine ⟨by rw [List.length_append]; rfl, fun i w' hi => ?_⟩
      rcases ap_at hi with g | ⟨g, g'⟩
      · have hil := (List.getElem?_eq_some_iff.mp g).1
        obtain ⟨x1, x2⟩ := g2 i w' g
        rw [z2_ne (by decide), z2a, if_neg (by omega), hc 269 (by decide) (by decide)]
        refine ⟨x1, fun k z hz => ?_⟩
        have hk := (List.getElem?_eq_some_iff.mp hz).1
        have := ((hB.2.2.2.1 Q.1.2.1).2 w' (List.mem_of_getElem? g)).1
        rw [z2_ne (by decide), z2_ne (by decide), hJ 268 _ (by decide) (by omega)]
        exact x2 k z hz
      · subst g g'
        rw [z2_ne (by decide), z2_at]
        exact ⟨rfl, fun k z hz => by rw [z2_ne (by decide), z2_ne (by decide)]; exact hJi k z hz⟩
    · rw [va_up_ne _ _ ev, z2a, if_neg (by omega), z2_ne (by decide), hc 267 (by decide) (by decide)]
      refine ⟨g1, fun i w' hi => ?_⟩
      have hil := (List.getElem?_eq_some_iff.mp hi).1
      have hil3 := (hB.2.2.2.1 v).1
      obtain ⟨x1, x2⟩ := g2 i w' hi
      rw [z2_ne (by decide), z2a, if_neg (by omega), hc 269 (by decide) (by decide)]
      refine ⟨x1, fun k z hz => ?_⟩
      have hk := (List.getElem?_eq_some_iff.mp hz).1
      have := ((hB.2.2.2.1 v).2 w' (List.mem_of_getElem? hi)).1
      rw [z2_ne (by decide), z2_ne (by decide), hJ 268 _ (by decide) (by omega)]
      exact x2 k z hz
  · unfold RMs at h7 ⊢; rw [z2_ne (by decide), z2_ne (by decide), hc 270 (by decide) (by decide), z2_ne (by decide), z2_ne (by decide), hc 271 (by decide) (by decide), z2_ne (by decide), z2_ne (by decide), hc 272 (by decide) (by decide)]; exact h7
/-- a pattern -/
theorem M_pattern_t (hK : TkI n t K) (hB : QB Q) (h8 : Q.1.2.1 < 8) (hl : (Q.2.2.2.2.2.2.2.1 Q.1.2.1).length < 3) (hu : Q.1.2.1 < u) (h : MS n t sd m u Q K I L) : ∃ J L', EV ρ (d + 5) 32 0 [.ref 257, .int (nI (8 * (1 - sd) + Q.1.2.1)), zU] [] (mk c R I L) = some ([], mk c R J L') ∧ FPM (1 - sd) I J ∧ FPM (1 - sd) L L' ∧ (if K.1 = 4 then MS n t sd m u (yPt Q K.2.2.2) (nxK n t K) J L' else FSt (er K 1) J) := by
  have h' := h
  obtain ⟨a1, a2, a3, a4, a5, a6⟩ := h
  have hv := (a6.2.2.2.2.2.1 Q.1.2.1 hu).1
  obtain ⟨v, J3, L3, p1, p2, p3, p4, p5, p6⟩ := M_signs_t (ρ := ρ) (d := d) (c := c) (R := R) (q := 268) (N := 384) (a := 8 * (3 * (8 * (1 - sd) + Q.1.2.1) + (Q.2.2.2.2.2.2.2.1 Q.1.2.1).length)) (pl := false) hK rfl (by decide) (by decide) (by decide) (by omega) (by show 192 * (1 - sd) ≤ _; omega) (by show _ ≤ 192 * (1 - sd) + 192; omega) (MS_0 h')
  rw [bM_patternTold_0, zidx_n (by omega) (by decide), hv, pk_mul, nI_add, pk_mul, show nI 0 = bo false from rfl, p1, zci, bM_patternTold_29, zidx_n (by omega) (by decide), bM_patternTold_30, zidx_n (by omega) (by decide), zidx_n (by omega) (by decide), bM_patternTold_40, z2_ne (by decide), p4 267 _ (by decide) (by omega), hv, nI_add]
  refine ⟨_, _, rfl, FPM_z (FPM_z p2 (by decide) (by decide) ?_ ?_) (by decide) (by decide) ?_ ?_, p3, ?_⟩
  · show 24 * (1 - sd) ≤ _; omega
  · show _ < 24 * (1 - sd) + 24; omega
  · show 8 * (1 - sd) ≤ _; omega
  · show _ < 8 * (1 - sd) + 8; omega
  · by_cases c4 : K.1 = 4
    · rw [if_pos c4] at p6 ⊢
      rw [if_neg (fun z => by cases z.1)] at p6
      obtain ⟨p7, p8, p9⟩ := p6
      rw [p7]
      obtain ⟨i1, i2, i3, i4, i5⟩ := hK.2.2.2.2.2.2.2 c4
      exact MS_i (MS0_to p8 (by rw [z2_ne (by decide), z2_ne (by decide)]) (by rw [z2_ne (by decide), z2_ne (by decide)]) rfl) (RM_pt hB hl i4 a6 p4 p5 p9)
    · rw [if_neg c4] at p6 ⊢
      exact FSt_z (by decide) (FSt_z (by decide) p6)
theorem M_pattern_f {k p : Nat} (hk : 8 * b + k < 16) (hk2 : k < 8) (hp : p < 3) (hv : I 267 (8 * b + k) = nI p) (h : FSt e I) : ∃ J, EV ρ (d + 5) 32 0 [.ref 257, .int (nI (8 * b + k)), zU] [] (mk c R I L) = some ([], mk c R J L) ∧ FPM b I J ∧ FSt e J := by
  rw [bM_patternTold_0, zidx_n (by omega) (by decide), hv, pk_mul, nI_add, M_signs_f h, zci, bM_patternTold_29, zidx_n (by omega) (by decide), bM_patternTold_30, zidx_n (by omega) (by decide), zidx_n (by omega) (by decide), bM_patternTold_40]
  refine ⟨_, rfl, FPM_z (FPM_z FPM_r (by decide) (by decide) ?_ ?_) (by decide) (by decide) ?_ ?_, FSt_z (by decide) (FSt_z (by decide) h)⟩
  · show 24 * b ≤ _; omega
  · show _ < 24 * b + 24; omega
  · show 8 * b ≤ _; omega
  · show _ < 8 * b + 8; omega
theorem RM_271 {x : Int32} (hB : QB Q) (hl : (Q.2.2.2.1 Q.1.2.1).length < 6) (h : RM m u Q b I L) : RM m u Q b (z2 I 271 (6 * (8 * b + Q.1.2.1) + (Q.2.2.2.1 Q.1.2.1).length) x) L := by
  obtain ⟨h1, h2, h3, h4, h5, h6, h7⟩ := h
  refine ⟨?_, h2, ?_, ?_, ?_, ?_, fun v hv => ?_⟩
  · unfold RMc at h1 ⊢; rw [z2_ne (by decide)]; exact h1
  · unfold RMi at h3 ⊢; rw [z2_ne (by decide), z2_ne (by decide)]; exact h3
  · unfold RMp at h4 ⊢; rw [z2_ne (by decide)]; exact h4
  · unfold RMe at h5 ⊢; rw [z2_ne (by decide), z2_ne (by decide)]; exact h5
  · unfold RMt at h6 ⊢; rw [z2_ne (by decide), z2_ne (by decide), z2_ne (by decide)]; exact h6
  · obtain ⟨g1, g2⟩ := h7 v hv
    rw [z2_ne (by decide)]
    refine ⟨g1, fun k z hz => ?_⟩
    have hk := (List.getElem?_eq_some_iff.mp hz).1
    have h6' := (hB.2.2.1 v).1
    have h6'' := (hB.2.2.1 Q.1.2.1).1
    rw [z2a, if_neg (by
      intro y
      have : v = Q.1.2.1 := by omega
      subst this
      omega), z2_ne (by decide)]
    exact g2 k z hz
theorem RM_sp {z : Nat × Nat} (hB : QB Q) (hl : (Q.2.2.2.1 Q.1.2.1).length < 6) (h : RM m u Q b I L) (h1 : I 271 (6 * (8 * b + Q.1.2.1) + (Q.2.2.2.1 Q.1.2.1).length) = nI z.1) : RM m u (ySp Q z) b (z2 (z2 I 272 (6 * (8 * b + Q.1.2.1) + (Q.2.2.2.1 Q.1.2.1).length) (nI z.2)) 270 (8 * b + Q.1.2.1) (nI ((Q.2.2.2.1 Q.1.2.1).length + 1))) L := by
  obtain ⟨g1, h2, h3, h4, h5, h6, h7⟩ := h
  refine ⟨?_, h2, ?_, ?_, ?_, ?_, fun v hv => ?_⟩
  · unfold RMc at g1 ⊢; rw [z2_ne (by decide), z2_ne (by decide)]; exact g1
  · unfold RMi at h3 ⊢; rw [z2_ne (by decide), z2_ne (by decide), z2_ne (by decide), z2_ne (by decide)]; exact h3
  · unfold RMp at h4 ⊢; rw [z2_ne (by decide), z2_ne (by decide)]; exact h4
  · unfold RMe at h5 ⊢; rw [z2_ne (by decide), z2_ne (by decide), z2_ne (by decide), z2_ne (by decide)]; exact h5
  · unfold RMt at h6 ⊢; rw [z2_ne (by decide), z2_ne (by decide), z2_ne (by decide), z2_ne (by decide), z2_ne (by decide), z2_ne (by decide)]; exact h6
  · obtain ⟨x1, x2⟩ := h7 v hv
    show _ = nI (va_up Q.2.2.2.1 Q.1.2.1 (Q.2.2.2.1 Q.1.2.1 ++ [z]) v).length ∧ ∀ k y, (va_up Q.2.2.2.1 Q.1.2.1 (Q.2.2.2.1 Q.1.2.1 ++ [z]) v)[k]? = some y → _
    by_cases ev : v = Q.1.2.1
    · subst ev
      rw [va_up_self, z2_at]
      refine ⟨by rw [List.length_append]; rfl, fun k y hy => ?_⟩
      rw [z2_ne (by decide), z2_ne (by decide), z2_ne (by decide)]
      rcases ap_at hy with g | ⟨g, g'⟩
      · have hk := (List.getElem?_eq_some_iff.mp g).1
        rw [z2a, if_neg (by omega)]
        exact x2 k y g
      · subst g g'
        rw [z2_at]
        exact ⟨h1, rfl⟩
    · rw [va_up_ne _ _ ev, z2a, if_neg (by omega), z2_ne (by decide)]
      refine ⟨x1, fun k y hy => ?_⟩
      have hk := (List.getElem?_eq_some_iff.mp hy).1
      have := (hB.2.2.1 v).1
      rw [z2_ne (by decide), z2_ne (by decide), z2_ne (by decide), z2a, if_neg (by omega)]
      exact x2 k y hy
theorem st_fin {x k l : Nat} {v : Int32} (hx : x < 96) (hk : k < 16) (h : I 270 k = nI l) : EV ρ (d + 5) 33 99 [.ref 257, .int (nI k), zU, zU] [.int v, .int (nI x), .ref 272] (mk c R I L) = some ([], mk c R (z2 (z2 I 272 x v) 270 k (nI (l + 1))) L) := by
  rw [bM_stepTold_99, zidx_n hx (by decide), bM_stepTold_100, zidx_n hk (by decide), zidx_n hk (by decide), bM_stepTold_110, z2_ne (by decide), h, nI_add]
/-- a step -/
theorem M_step_t {z : Nat} (hK : TkI n t K) (hN : QN Q) (hB : QB Q) (h8 : Q.1.2.1 < 8) (hu : Q.1.2.1 < u) (hz : stw K = some z) (h : MS n t sd m u Q K I L) : ∃ J L', EV ρ (d + 5) 33 0 [.ref 257, .int (nI (8 * (1 - sd) + Q.1.2.1)), zU, zU] [] (mk c R I L) = some ([], mk c R J L') ∧ FPM (1 - sd) I J ∧ FPM (1 - sd) L L' ∧ (if (Q.2.2.2.1 Q.1.2.1).length < 6 then (match yVal n t z Q (nxK n t K) with
    | .error e => FSt e J
    | .ok (Q', v, K') => MS n t sd m u (ySp Q' (z, v)) K' J L') else FSt (er K 4) J) := by
  have h' := h
  obtain ⟨a1, a2, a3, a4, a5, a6⟩ := h
  obtain ⟨z4, hk1, hkw⟩ := stw_le hz
  have hn := a1.2.1
  have h6 := (hB.2.2.1 Q.1.2.1).1
  rw [bM_stepTold_0, M_stepWord_e (d := d + 2) hK a4 a5, zci, hz, bM_stepTold_4, zidx_n (by omega) (by decide), (a6.2.2.2.2.2.2 Q.1.2.1 hu).1]
  by_cases c0 : (Q.2.2.2.1 Q.1.2.1).length < 6
  · simp only [if_pos c0]
    rw [if_neg (fun y => by have := (nI_eq (by omega) (by omega)).mp y; omega), bM_stepTold_21]
    obtain ⟨J1, L1, b1, b2, b3, b4⟩ := MS_next (ρ := ρ) (d := d + 1) (c := c) (R := R) hK h' (by omega)
    obtain ⟨g1, g2, g3, g4, g5, g6⟩ := id b2
    have k1 := nxK_i hK
    rw [b1, zcv, bM_stepTold_25, g4, if_pos (by decide), zidx_n (by omega) (by decide), (g6.2.2.2.2.2.2 Q.1.2.1 hu).1, pk_mul, nI_add, zidx_n (by omega) (by decide), bM_stepTold_52]
    have hM : MS n t sd m u Q (nxK n t K) (z2 J1 271 (6 * (8 * (1 - sd) + Q.1.2.1) + (Q.2.2.2.1 Q.1.2.1).length) (eO (some z))) L1 := MS_i (MS0_to (MS_0 b2) (z2_ne (by decide)) (z2_ne (by decide)) rfl) (RM_271 hB c0 g6)
    have hf0 : FPM (1 - sd) I (z2 J1 271 (6 * (8 * (1 - sd) + Q.1.2.1) + (Q.2.2.2.1 Q.1.2.1).length) (eO (some z))) := by
      refine FPM_z (FPM_7 b3) (by decide) (by decide) ?_ ?_
      · show 48 * (1 - sd) ≤ _; omega
      · show _ < 48 * (1 - sd) + 48; omega
    have h271 : z2 J1 271 (6 * (8 * (1 - sd) + Q.1.2.1) + (Q.2.2.2.1 Q.1.2.1).length) (eO (some z)) 271 (6 * (8 * (1 - sd) + Q.1.2.1) + (Q.2.2.2.1 Q.1.2.1).length) = nI z := by rw [z2_at]; rfl
    generalize z2 J1 271 (6 * (8 * (1 - sd) + Q.1.2.1) + (Q.2.2.2.1 Q.1.2.1).length) (eO (some z)) = J1' at hM hf0 h271
    have h270 := (hM.2.2.2.2.2.2.2.2.2.2.2 Q.1.2.1 hu).1
    have hfin : ∀ (J2 : Nat → Nat → Int32) (v : Int32), FPM (1 - sd) J1' J2 → FPM (1 - sd) I (z2 (z2 J2 272 (6 * (8 * (1 - sd) + Q.1.2.1) + (Q.2.2.2.1 Q.1.2.1).length) v) 270 (8 * (1 - sd) + Q.1.2.1) (nI ((Q.2.2.2.1 Q.1.2.1).length + 1))) := fun J2 v h2 => by
      refine FPM_z (FPM_z (FPM_t hf0 h2) (by decide) (by decide) ?_ ?_) (by decide) (by decide) ?_ ?_
      · show 48 * (1 - sd) ≤ _; omega
      · show _ < 48 * (1 - sd) + 48; omega
      · show 8 * (1 - sd) ≤ _; omega
      · show _ < 8 * (1 - sd) + 8; omega
    have hok : ∀ (Q' : QT) (v : Nat) (K' : Tk) (J2 : Nat → Nat → Int32) (L2 : Nat → Nat → Int64), Q'.1.2.1 = Q.1.2.1 → Q'.2.2.2.1 = Q.2.2.2.1 → QB Q' → MS n t sd m u Q' K' J2 L2 → J2 271 = J1' 271 → MS n t sd m u (ySp Q' (z, v)) K' (z2 (z2 J2 272 (6 * (8 * (1 - sd) + Q.1.2.1) + (Q.2.2.2.1 Q.1.2.1).length) (nI v)) 270 (8 * (1 - sd) + Q.1.2.1) (nI ((Q.2.2.2.1 Q.1.2.1).length + 1))) L2 := fun Q' v K' J2 L2 e1 e2 e3 e4 e5 => by
      rw [← e1, ← e2]
      refine MS_i (MS0_to (MS_0 e4) (by rw [z2_ne (by decide), z2_ne (by decide)]) (by rw [z2_ne (by decide), z2_ne (by decide)]) rfl) (RM_sp (z := (z, v)) e3 (by rw [e1, e2]; exact c0) e4.2.2.2.2.2 (by rw [e1, e2, e5]; exact h271))
    have hbad : ∀ (y : Nat) (J2 : Nat → Nat → Int32) (v : Int32), FSt y J2 → FSt y (z2 (z2 J2 272 (6 * (8 * (1 - sd) + Q.1.2.1) + (Q.2.2.2.1 Q.1.2.1).length) v) 270 (8 * (1 - sd) + Q.1.2.1) (nI ((Q.2.2.2.1 Q.1.2.1).length + 1))) := fun y J2 v hy => FSt_z (by decide) (FSt_z (by decide) hy)
    unfold yVal
    have hnum : ∀ (lo hi : Nat), lo ≤ 99 → hi ≤ 99 → ∃ v J2 L2, EV ρ (d + 4) 28 0 [.ref 257, .int (nI lo), .int (nI hi), zU] [] (mk c R J1' L1) = some ([.int v], mk c R J2 L2) ∧ J2 270 (8 * (1 - sd) + Q.1.2.1) = nI (Q.2.2.2.1 Q.1.2.1).length ∧ FPM (1 - sd) I (z2 (z2 J2 272 (6 * (8 * (1 - sd) + Q.1.2.1) + (Q.2.2.2.1 Q.1.2.1).length) v) 270 (8 * (1 - sd) + Q.1.2.1) (nI ((Q.2.2.2.1 Q.1.2.1).length + 1))) ∧ FPM (1 - sd) L L2 ∧ (if (nxK n t K).1 = 2 then (if lo ≤ nmb (nxK n t K) ∧ nmb (nxK n t K) ≤ hi then MS n t sd m u (ySp Q (z, nmb (nxK n t K))) (nxK n t (nxK n t K)) (z2 (z2 J2 272 (6 * (8 * (1 - sd) + Q.1.2.1) + (Q.2.2.2.1 Q.1.2.1).length) v) 270 (8 * (1 - sd) + Q.1.2.1) (nI ((Q.2.2.2.1 Q.1.2.1).length + 1))) L2 else FSt (er (nxK n t K) 2) (z2 (z2 J2 272 (6 * (8 * (1 - sd) + Q.1.2.1) + (Q.2.2.2.1 Q.1.2.1).length) v) 270 (8 * (1 - sd) + Q.1.2.1) (nI ((Q.2.2.2.1 Q.1.2.1).length + 1)))) else FSt (er (nxK n t K) 1) (z2 (z2 J2 272 (6 * (8 * (1 - sd) + Q.1.2.1) + (Q.2.2.2.1 Q.1.2.1).length) v) 270 (8 * (1 - sd) + Q.1.2.1) (nI ((Q.2.2.2.1 Q.1.2.1).length + 1)))) := fun lo hi hlo hhi => by
      obtain ⟨v, J2, L2, s1, s2, s3, s0, s4⟩ := M_number_t (ρ := ρ) (d := d) (c := c) (R := R) k1 hlo hhi hM
      refine ⟨v, J2, L2, s1, by rw [s0 270 (by decide) (by decide)]; exact h270, hfin J2 v s2, FPM_t (FPM_7 b4) s3, ?_⟩
      by_cases c1 : (nxK n t K).1 = 2
      · rw [if_pos c1] at s4 ⊢
        by_cases c2 : lo ≤ nmb (nxK n t K) ∧ nmb (nxK n t K) ≤ hi
        · rw [if_pos c2] at s4 ⊢
          rw [s4.1]
          exact hok Q _ _ J2 L2 rfl rfl hB s4.2 (s0 271 (by decide) (by decide))
        · rw [if_neg c2] at s4 ⊢; exact hbad _ J2 v s4
      · rw [if_neg c1] at s4 ⊢; exact hbad _ J2 v s4
    have hsup : ∃ v J2 L2, EV ρ (d + 4) 26 0 [.ref 257, zU, zU, zU, zU] [] (mk c R J1' L1) = some ([.int v], mk c R J2 L2) ∧ J2 270 (8 * (1 - sd) + Q.1.2.1) = nI (Q.2.2.2.1 Q.1.2.1).length ∧ FPM (1 - sd) I (z2 (z2 J2 272 (6 * (8 * (1 - sd) + Q.1.2.1) + (Q.2.2.2.1 Q.1.2.1).length) v) 270 (8 * (1 - sd) + Q.1.2.1) (nI ((Q.2.2.2.1 Q.1.2.1).length + 1))) ∧ FPM (1 - sd) L L2 ∧ (match ySup Q (nxK n t K) with
        | .error e => FSt e (z2 (z2 J2 272 (6 * (8 * (1 - sd) + Q.1.2.1) + (Q.2.2.2.1 Q.1.2.1).length) v) 270 (8 * (1 - sd) + Q.1.2.1) (nI ((Q.2.2.2.1 Q.1.2.1).length + 1)))
        | .ok (Q', s) => MS n t sd m u (ySp Q' (z, s)) (nxK n t (nxK n t K)) (z2 (z2 J2 272 (6 * (8 * (1 - sd) + Q.1.2.1) + (Q.2.2.2.1 Q.1.2.1).length) v) 270 (8 * (1 - sd) + Q.1.2.1) (nI ((Q.2.2.2.1 Q.1.2.1).length + 1))) L2) := by
      obtain ⟨v, J2, L2, s1, s2, s3, s0, s4⟩ := M_supply_t (ρ := ρ) (d := d) (c := c) (R := R) k1 hN hM
      refine ⟨v, J2, L2, s1, by rw [s0 270 (by decide) (by decide)]; exact h270, hfin J2 v s2, FPM_t (FPM_7 b4) s3, ?_⟩
      cases es : ySup Q (nxK n t K) with
      | error y => rw [es] at s4; exact hbad _ J2 v s4
      | ok y =>
        obtain ⟨Q1, s⟩ := y
        rw [es] at s4
        simp only at s4 ⊢
        obtain ⟨y1, y2, y3, y4, y5⟩ := ySup_v k1 es hN hB
        rw [s4.1]
        exact hok Q1 s _ J2 L2 (by rw [y5]) (by rw [y5]) y2 s4.2 (s0 271 (by decide) (by decide))
    rw [show eO (some z) = nI z from rfl]
    have hz5 : z = 0 ∨ z = 1 ∨ z = 2 ∨ z = 3 ∨ z = 4 := by omega
    rcases hz5 with rfl | rfl | rfl | rfl | rfl
    · obtain ⟨v, J2, L2, s1, s2, s3, s4, s5⟩ := hnum 1 99 (by decide) (by decide)
      rw [if_pos (by decide), s1, zci, bM_stepTold_68, st_fin (by omega) (by omega) s2]
      refine ⟨_, _, rfl, s3, s4, ?_⟩
      rw [if_neg (by decide), if_pos (by decide)]
      by_cases c1 : (nxK n t K).1 = 2
      · rw [if_pos c1] at s5 ⊢
        have := nmb_le k1 c1
        by_cases c2 : 1 ≤ nmb (nxK n t K)
        · rw [if_pos ⟨c2, this⟩] at s5
          rw [if_pos ⟨fun _ => c2, fun y => (by cases y)⟩]
          exact s5
        · rw [if_neg (fun y => c2 y.1)] at s5
          rw [if_neg (fun y => c2 (y.1 rfl))]
          exact s5
      · rw [if_neg c1] at s5 ⊢; exact s5
    · obtain ⟨v, J2, L2, s1, s2, s3, s4, s5⟩ := hnum 0 15 (by decide) (by decide)
      rw [if_neg (by decide), if_pos rfl, s1, zci, bM_stepTold_83, st_fin (by omega) (by omega) s2]
      refine ⟨_, _, rfl, s3, s4, ?_⟩
      rw [if_neg (by decide), if_pos (by decide)]
      by_cases c1 : (nxK n t K).1 = 2
      · rw [if_pos c1] at s5 ⊢
        by_cases c2 : nmb (nxK n t K) ≤ 15
        · rw [if_pos ⟨Nat.zero_le _, c2⟩] at s5
          rw [if_pos ⟨fun y => (by cases y), fun _ => Nat.lt_succ_of_le c2⟩]
          exact s5
        · rw [if_neg (fun y => c2 y.2)] at s5
          rw [if_neg (fun y => c2 (Nat.le_of_lt_succ (y.2 rfl)))]
          exact s5
      · rw [if_neg c1] at s5 ⊢; exact s5
    · obtain ⟨v, J2, L2, s1, s2, s3, s4, s5⟩ := hsup
      rw [if_neg (by decide), if_neg (by decide), if_neg (by decide), s1, zci, st_fin (by omega) (by omega) s2]
      refine ⟨_, _, rfl, s3, s4, ?_⟩
      rw [if_neg (by decide), if_neg (by decide)]
      cases es : ySup Q (nxK n t K) with
      | error y => rw [es] at s5; exact s5
      | ok y => rw [es] at s5; exact s5
    · obtain ⟨v, J2, L2, s1, s2, s3, s4, s5⟩ := hsup
      rw [if_neg (by decide), if_neg (by decide), if_neg (by decide), s1, zci, st_fin (by omega) (by omega) s2]
      refine ⟨_, _, rfl, s3, s4, ?_⟩
      rw [if_neg (by decide), if_neg (by decide)]
      cases es : ySup Q (nxK n t K) with
      | error y => rw [es] at s5; exact s5
      | ok y => rw [es] at s5; exact s5
    · rw [if_neg (by decide), if_neg (by decide), if_pos rfl, st_fin (by omega) (by omega) h270]
      exact ⟨_, _, rfl, hfin J1' (nI 0) FPM_r, FPM_7 b4, hok Q 0 _ J1' L1 rfl rfl hB hM rfl⟩
  · simp only [if_neg c0]
    have hF := FSt_w hK hn a5 (y := 4) (by decide) (by decide)
    rw [if_pos (by rw [show (Q.2.2.2.1 Q.1.2.1).length = 6 from by omega]), M_wrong_e (d := d + 3) a4, zcv, bM_stepTold_21, M_next_f (d := d + 3) hF, zcv, bM_stepTold_25, if_neg (FSt_n hF).1]
    exact ⟨_, _, rfl, FPM_w FPM_r, FPM_r, hF⟩
end MDRV
