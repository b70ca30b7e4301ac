-- THE REFERENCE READS: a driver's line, the lines
section MBRD
variable {ρ : Nat × (Nat → Int32)} {d : Nat} {c : Nat × Nat} {R : Nat → Nat → Option Nat} {I J : Nat → Nat → Int32} {L L' : Nat → Nat → Int64} {n : Nat} {t : Nat → Nat} {sd m u b : Nat} {Q Q' : QT} {K : Tk} {e : Nat}
theorem RM_nv {w : List Nat} (hw : Q.2.2.2.2.2.2.1 Q.1.2.1 = w) (h : RM m u Q b I L) : RM m u (q_nv Q (Q.1.2.1 + 1)) b (z2 I 259 (3 * b + 1) (nI (Q.1.2.1 + 1))) (z2 L 266 (8 * b + Q.1.2.1) (c56 w)) := by
  obtain ⟨⟨r1, r2, r3⟩, ⟨s1, s2, s3⟩, h3, h4, h5, h6, h7⟩ := h
  refine ⟨⟨?_, ?_, ?_⟩, ⟨fun x hx => ?_, fun x hx => ?_, fun x hx => ?_⟩, ?_, ?_, ?_, ?_, ?_⟩
  · rw [z2a, if_neg (by omega)]; exact r1
  · rw [z2_at]
  · rw [z2a, if_neg (by omega)]; exact r3
  · rw [z2_ne (by decide)]; exact s1 x hx
  · have hx' : x < Q.1.2.1 + 1 := hx
    by_cases ex : x = Q.1.2.1
    · rw [ex, z2_at, ← hw]
    · rw [z2a, if_neg (by omega)]; exact s2 x (by omega)
  · rw [z2_ne (by decide)]; exact s3 x hx
  · unfold RMi at h3 ⊢; rw [z2_ne (by decide), z2_ne (by decide)]; exact h3
  · unfold RMp at h4 ⊢; rw [z2_ne (by decide)]; exact h4
  · unfold RMe at h5 ⊢; rw [z2_ne (by decide), z2_ne (by decide)]; exact h5
  · unfold RMt at h6 ⊢; rw [z2_ne (by decide), z2_ne (by decide), z2_ne (by decide)]; exact h6
  · unfold RMs at h7 ⊢; rw [z2_ne (by decide), z2_ne (by decide), z2_ne (by decide)]; exact h7
theorem RM_d0 {w : List Nat} (hp : Q.2.2.2.2.2.2.2.1 Q.1.2.1 = []) (hs : Q.2.2.2.1 Q.1.2.1 = []) (h : RM m Q.1.2.1 Q b I L) : RM m (Q.1.2.1 + 1) (yVn Q w) b (z2 (z2 I 267 (8 * b + Q.1.2.1) (nI 0)) 270 (8 * b + Q.1.2.1) (nI 0)) L := by
  obtain ⟨h1, ⟨s1, s2, s3⟩, h3, h4, h5, h6, h7⟩ := h
  refine ⟨?_, ⟨s1, fun x hx => ?_, s3⟩, ?_, ?_, ?_, fun v hv => ?_, fun v hv => ?_⟩
  · unfold RMc at h1 ⊢; rw [z2_ne (by decide), z2_ne (by decide)]; exact h1
  · have hx' : x < Q.1.2.1 := hx
    show _ = c56 (va_up Q.2.2.2.2.2.2.1 Q.1.2.1 w x)
    rw [va_up_ne _ _ (by omega)]
    exact s2 x hx
  · unfold RMi at h3 ⊢; rw [z2_ne (by decide), z2_ne (by decide), z2_ne (by decide), z2_ne (by decide)]; exact h3
  · unfold RMp at h4 ⊢; rw [z2_ne (by decide), z2_ne (by decide)]; exact h4
  · unfold RMe at h5 ⊢; rw [z2_ne (by decide), z2_ne (by decide), z2_ne (by decide), z2_ne (by decide)]; exact h5
  · show _ = nI (Q.2.2.2.2.2.2.2.1 v).length ∧ ∀ i w', (Q.2.2.2.2.2.2.2.1 v)[i]? = some w' → _
    by_cases ev : v = Q.1.2.1
    · subst ev
      rw [hp, z2_ne (by decide), z2_at]
      exact ⟨rfl, fun i w' hi => by cases hi⟩
    · rw [z2_ne (by decide), z2a, if_neg (by omega), z2_ne (by decide), z2_ne (by decide), z2_ne (by decide), z2_ne (by decide)]
      exact h6 v (by omega)
  · show _ = nI (Q.2.2.2.1 v).length ∧ ∀ i w', (Q.2.2.2.1 v)[i]? = some w' → _
    by_cases ev : v = Q.1.2.1
    · subst ev
      rw [hs, z2_at]
      exact ⟨rfl, fun i w' hi => by cases hi⟩
    · rw [z2a, if_neg (by omega), z2_ne (by decide), z2_ne (by decide), z2_ne (by decide), z2_ne (by decide), z2_ne (by decide)]
      exact h7 v (by omega)
theorem dr_f116 (h : FSt e I) (v1 v3 : Int32) (w : Int64) : EV ρ (d + 6) 31 116 [.ref 257, .int v1, zU, .int v3, .long w, zU] [] (mk c R I L) = some ([], mk c R I L) := by
  rw [bM_driverLine_116, if_neg (FSt_n h).2, if_neg (FSt_n h).1]
theorem dr_f73 (h : FSt e I) (v1 v3 : Int32) (w : Int64) : EV ρ (d + 6) 31 73 [.ref 257, .int v1, zU, .int v3, .long w, zU] [] (mk c R I L) = some ([], mk c R I L) := by
  rw [bM_driverLine_73, M_isWord_f (d := d + 4) h, zci, bM_driverLine_79, if_pos (by decide), dr_f116 h]
theorem dr_steps {w : List Nat} : ∀ (f : Nat) (Q : QT) (K : Tk) (I : Nat → Nat → Int32) (L : Nat → Nat → Int64), TkI n t K → QN Q → QB Q → (Q.2.2.2.1 Q.1.2.1).length + f = 6 → Q.1.2.1 < 8 → Q.2.2.2.2.2.2.1 Q.1.2.1 = w → MS n t sd m (Q.1.2.1 + 1) Q K I L →
    ∃ J L', EV ρ (d + 6) 31 116 [.ref 257, .int (nI (1 - sd)), zU, .int (nI (8 * (1 - sd) + Q.1.2.1)), .long (c56 w), zU] [] (mk c R I L) = some ([], mk c R J L') ∧ FPM (1 - sd) I J ∧ FPM (1 - sd) L L' ∧ (match ySteps n t f Q K with
      | .error e => FSt e J
      | .ok (Q', K') => MS n t sd m (Q'.1.2.1 + 1) (q_nv Q' (Q'.1.2.1 + 1)) K' J L') := by
  have hnone : ∀ (f : Nat) (Q : QT) (K : Tk) (I : Nat → Nat → Int32) (L : Nat → Nat → Int64), TkI n t K → stw K = none → Q.1.2.1 < 8 → Q.2.2.2.2.2.2.1 Q.1.2.1 = w → MS n t sd m (Q.1.2.1 + 1) Q K I L → ∃ J L', EV ρ (d + 6) 31 116 [.ref 257, .int (nI (1 - sd)), zU, .int (nI (8 * (1 - sd) + Q.1.2.1)), .long (c56 w), zU] [] (mk c R I L) = some ([], mk c R J L') ∧ FPM (1 - sd) I J ∧ FPM (1 - sd) L L' ∧ MS n t sd m (Q.1.2.1 + 1) (q_nv Q (Q.1.2.1 + 1)) K J L' := by
    intro f Q K I L hK hs h8 hw h
    obtain ⟨a1, a2, a3, a4, a5, a6⟩ := id h
    rw [bM_driverLine_116, a4, if_pos (by decide), M_stepWord_e (d := d + 3) hK a4 a5, zci, bM_driverLine_127, hs, if_pos (by decide), a4, if_pos (by decide), zidx_n (by omega) (by decide), bM_driverLine_154, pk_mul, nI_add, zidx_n (by omega) (by decide), zidx_n (by omega) (by decide), a6.1.2.1, nI_add, bM_driverLine_168]
    refine ⟨_, _, rfl, FPM_z FPM_r (by decide) (by decide) ?_ ?_, FPM_z FPM_r (by decide) (by decide) ?_ ?_, MS_i (MS0_to (MS_0 h) (z2_ne (by decide)) (z2_ne (by decide)) (z2_ne (by decide))) (RM_nv hw a6)⟩
    · show 3 * (1 - sd) ≤ _; omega
    · show _ < 3 * (1 - sd) + 3; omega
    · show 8 * (1 - sd) ≤ _; omega
    · show _ < 8 * (1 - sd) + 8; omega
  intro f
  induction f with
  | zero =>
    intro Q K I L hK hN hB hf h8 hw h
    unfold ySteps
    cases hs : stw K with
    | none => exact hnone 0 Q K I L hK hs h8 hw h
    | some z =>
      obtain ⟨a1, a2, a3, a4, a5, a6⟩ := id h
      have z4 := (stw_le hs).1
      obtain ⟨J, L', b1, b2, b3, b4⟩ := M_step_t (ρ := ρ) (d := d) (c := c) (R := R) hK hN hB h8 (by omega) hs h
      rw [if_neg (by omega)] at b4
      rw [bM_driverLine_116, a4, if_pos (by decide), M_stepWord_e (d := d + 3) hK a4 a5, zci, bM_driverLine_127, hs, if_neg (show ¬ eO (some z) < 0 from nI_pos (by omega)), b1, zcv, bM_driverLine_135, dr_f116 b4]
      exact ⟨_, _, rfl, b2, b3, b4⟩
  | succ f ih =>
    intro Q K I L hK hN hB hf h8 hw h
    rw [ySteps_s]
    cases hs : stw K with
    | none => exact hnone 0 Q K I L hK hs h8 hw h
    | some z =>
      obtain ⟨a1, a2, a3, a4, a5, a6⟩ := id h
      have z4 := (stw_le hs).1
      obtain ⟨J, L', b1, b2, b3, b4⟩ := M_step_t (ρ := ρ) (d := d) (c := c) (R := R) hK hN hB h8 (by omega) hs h
      rw [if_pos (by omega)] at b4
      rw [bM_driverLine_116, a4, if_pos (by decide), M_stepWord_e (d := d + 3) hK a4 a5, zci, bM_driverLine_127, hs, if_neg (show ¬ eO (some z) < 0 from nI_pos (by omega)), b1, zcv, bM_driverLine_135]
      simp only
      cases es : yVal n t z Q (nxK n t K) with
      | error y =>
        rw [es] at b4
        rw [dr_f116 b4]
        exact ⟨_, _, rfl, b2, b3, b4⟩
      | ok y =>
        obtain ⟨Q1, v, K1⟩ := y
        rw [es] at b4
        simp only at b4 ⊢
        obtain ⟨y1, y2, y3, y4, y5, y6, y7, y8, y9⟩ := yVal_v z4 (nxK_i hK) es hN hB
        have e1 : Q1.1.2.1 = Q.1.2.1 := by rw [y9]
        have e2 : Q1.2.2.2.1 = Q.2.2.2.1 := by rw [y9]
        have e3 : Q1.2.2.2.2.2.2.1 = Q.2.2.2.2.2.2.1 := by rw [y9]
        have hB' := ySp_v (Q := Q1) (z := (z, v)) (by rw [e1, e2]; omega) ⟨z4, y4, y5, y6, y7⟩ y2
        rw [← e1] at b4
        obtain ⟨J2, L2, c1, c2, c3, c4⟩ := ih (ySp Q1 (z, v)) K1 J L' y3 y1 hB' (by show (va_up Q1.2.2.2.1 Q1.1.2.1 (Q1.2.2.2.1 Q1.1.2.1 ++ [_]) Q1.1.2.1).length + f = 6; rw [va_up_self, List.length_append, e1, e2]; show _ + 1 + f = 6; omega) (by show Q1.1.2.1 < 8; omega) (by show Q1.2.2.2.2.2.2.1 Q1.1.2.1 = w; rw [e1, e3]; exact hw) b4
        have c1' : EV ρ (d + 6) 31 116 [.ref 257, .int (nI (1 - sd)), zU, .int (nI (8 * (1 - sd) + Q1.1.2.1)), .long (c56 w), zU] [] (mk c R J L') = _ := c1
        rw [e1] at c1'
        rw [c1']
        exact ⟨J2, L2, rfl, FPM_t b2 c2, FPM_t b3 c3, c4⟩
theorem dr_pats {w : List Nat} : ∀ (f : Nat) (Q : QT) (K : Tk) (I : Nat → Nat → Int32) (L : Nat → Nat → Int64), TkI n t K → QN Q → QB Q → (Q.2.2.2.2.2.2.2.1 Q.1.2.1).length + f = 3 → Q.2.2.2.1 Q.1.2.1 = [] → Q.1.2.1 < 8 → Q.2.2.2.2.2.2.1 Q.1.2.1 = w → MS n t sd m (Q.1.2.1 + 1) Q K I L →
    ∃ J L', EV ρ (d + 6) 31 73 [.ref 257, .int (nI (1 - sd)), zU, .int (nI (8 * (1 - sd) + Q.1.2.1)), .long (c56 w), zU] [] (mk c R I L) = some ([], mk c R J L') ∧ FPM (1 - sd) I J ∧ FPM (1 - sd) L L' ∧ (match (if kW 4 K = true then yPats n t f Q K else .ok (Q, K)) with
      | .error e => FSt e J
      | .ok (Q1, K1) => match ySteps n t 6 Q1 K1 with
        | .error e => FSt e J
        | .ok (Q', K') => MS n t sd m (Q'.1.2.1 + 1) (q_nv Q' (Q'.1.2.1 + 1)) K' J L') := by
  intro f
  induction f with
  | zero =>
    intro Q K I L hK hN hB hf hs h8 hw h
    obtain ⟨a1, a2, a3, a4, a5, a6⟩ := id h
    have hn := a1.2.1
    rw [bM_driverLine_73, M_isWord_e (d := d + 4) hK a4 a5 (i := 4) (by decide) rfl, zci, bM_driverLine_79]
    by_cases c1 : kW 4 K = true
    · simp only [if_pos c1]
      have hF := FSt_w hK hn a5 (y := 4) (by decide) (by decide)
      rw [c1, if_neg (by decide), zidx_n (by omega) (by decide), (a6.2.2.2.2.2.1 Q.1.2.1 (by omega)).1, if_pos (by rw [show (Q.2.2.2.2.2.2.2.1 Q.1.2.1).length = 3 from by omega]), M_wrong_e (d := d + 4) a4, zcv, bM_driverLine_97, M_next_f (d := d + 4) hF, zcv, bM_driverLine_101, if_neg (FSt_n hF).2, dr_f73 hF]
      exact ⟨_, _, rfl, FPM_w FPM_r, FPM_r, hF⟩
    · simp only [if_neg c1]
      have c1' : kW 4 K = false := by rw [Bool.eq_false_iff]; exact c1
      rw [c1', if_pos (by decide)]
      exact dr_steps 6 Q K I L hK hN hB (by rw [hs]; rfl) h8 hw h
  | succ f ih =>
    intro Q K I L hK hN hB hf hs h8 hw h
    obtain ⟨a1, a2, a3, a4, a5, a6⟩ := id h
    have hn := a1.2.1
    rw [bM_driverLine_73, M_isWord_e (d := d + 4) hK a4 a5 (i := 4) (by decide) rfl, zci, bM_driverLine_79]
    by_cases c1 : kW 4 K = true
    · simp only [if_pos c1]
      have hk1 := (kW_i.mp c1).1
      have k1 := nxK_i hK
      rw [c1, if_neg (by decide), zidx_n (by omega) (by decide), (a6.2.2.2.2.2.1 Q.1.2.1 (by omega)).1, if_neg (fun z => by have := (nI_eq (by omega) (by omega)).mp z; omega), bM_driverLine_97]
      obtain ⟨J1, L1, b1, b2, b3, b4⟩ := MS_next (ρ := ρ) (d := d + 2) (c := c) (R := R) hK h (by omega)
      obtain ⟨J2, L2, s1, s2, s3, s4⟩ := M_pattern_t (ρ := ρ) (d := d) (c := c) (R := R) k1 hB h8 (by omega) (by omega) b2
      rw [b1, zcv, bM_driverLine_101, b2.2.2.2.1, if_pos (by decide), s1, zcv, bM_driverLine_113, yPats_s]
      have hf1 := FPM_t (FPM_7 b3) s2
      have hf2 := FPM_t (FPM_7 b4) s3
      by_cases c4 : (nxK n t K).1 = 4
      · rw [if_pos c4] at s4
        simp only [if_pos c4]
        obtain ⟨i1, i2, i3, i4, i5⟩ := k1.2.2.2.2.2.2.2 c4
        have hB' := yPt_v (Q := Q) (w := (nxK n t K).2.2.2) (by omega) ⟨i4, i2⟩ hB
        obtain ⟨J3, L3, q1, q2, q3, q4⟩ := ih (yPt Q (nxK n t K).2.2.2) (nxK n t (nxK n t K)) J2 L2 (nxK_i k1) hN hB' (by show (va_up Q.2.2.2.2.2.2.2.1 Q.1.2.1 (Q.2.2.2.2.2.2.2.1 Q.1.2.1 ++ [_]) Q.1.2.1).length + f = 3; rw [va_up_self, List.length_append]; show _ + 1 + f = 3; omega) hs h8 hw s4
        exact ⟨J3, L3, q1, FPM_t hf1 q2, FPM_t hf2 q3, q4⟩
      · rw [if_neg c4] at s4
        simp only [if_neg c4]
        rw [dr_f73 s4]
        exact ⟨_, _, rfl, hf1, hf2, s4⟩
    · simp only [if_neg c1]
      have c1' : kW 4 K = false := by rw [Bool.eq_false_iff]; exact c1
      rw [c1', if_pos (by decide)]
      exact dr_steps 6 Q K I L hK hN hB (by rw [hs]; rfl) h8 hw h
/-- a driver's line -/
theorem M_driverLine_e (hK : TkI n t K) (h1 : K.1 = 1) (hN : QN Q) (hB : QB Q) (hE : QE Q) (h : MS n t sd Q.1.1 Q.1.2.1 Q K I L) : ∃ J L', EV ρ (d + 6) 31 0 [.ref 257, zU, zU, zU, zU, zU] [] (mk c R I L) = some ([], mk c R J L') ∧ FPM (1 - sd) I J ∧ FPM (1 - sd) L L' ∧ (match yDrvL n t Q K with
    | .error e => FSt e J
    | .ok (Q', K') => MS n t sd Q'.1.1 Q'.1.2.1 Q' K' J L') := by
  obtain ⟨a1, a2, a3, a4, a5, a6⟩ := id h
  have hn := a1.2.1
  have h8 := hN.2.1
  rw [bM_driverLine_0, a2, pk_sub (by omega), pk_mul, nI_add, zidx_n (by omega) (by decide), a6.1.2.1]
  unfold yDrvL
  by_cases c0 : Q.1.2.1 < 8
  · simp only [if_pos c0]
    rw [if_neg (fun z => by have := (nI_eq (by omega) (by omega)).mp z; omega), bM_driverLine_29]
    obtain ⟨J1, L1, b1, b2, b3, b4⟩ := MS_next (ρ := ρ) (d := d + 2) (c := c) (R := R) hK h (by omega)
    have k1 := nxK_i hK
    rw [b1, zcv, bM_driverLine_33, b2.2.2.2.1, if_pos (by decide), pk_mul, nI_add]
    obtain ⟨w, J2, L2, s1, s2, s3, s4⟩ := M_newName_e (ρ := ρ) (d := d + 1) (c := c) (R := R) k1 hN b2
    rw [s1, zcl, bM_driverLine_52, zidx_n (by omega) (by decide), bM_driverLine_61, zidx_n (by omega) (by decide), bM_driverLine_68]
    have hf : FPM (1 - sd) I (z2 (z2 J2 267 (8 * (1 - sd) + Q.1.2.1) (nI 0)) 270 (8 * (1 - sd) + Q.1.2.1) (nI 0)) := by
      refine FPM_z (FPM_z (FPM_t (FPM_7 b3) s2) (by decide) (by decide) ?_ ?_) (by decide) (by decide) ?_ ?_
      · show 8 * (1 - sd) ≤ _; omega
      · show _ < 8 * (1 - sd) + 8; omega
      · show 8 * (1 - sd) ≤ _; omega
      · show _ < 8 * (1 - sd) + 8; omega
    have hfL : FPM (1 - sd) L L2 := FPM_t (FPM_7 b4) s3
    cases e1 : yNew Q (nxK n t K) with
    | some y =>
      rw [e1] at s4
      obtain ⟨J3, q1, q2, q3⟩ := M_pattern_f (ρ := ρ) (d := d) (c := c) (R := R) (L := L2) (I := z2 (z2 J2 267 (8 * (1 - sd) + Q.1.2.1) (nI 0)) 270 (8 * (1 - sd) + Q.1.2.1) (nI 0)) (b := 1 - sd) (k := Q.1.2.1) (p := 0) (by omega) c0 (by decide) (by rw [z2_ne (by decide), z2_at]) (FSt_z (by decide) (FSt_z (by decide) s4))
      rw [q1, zcv, dr_f73 q3]
      exact ⟨J3, L2, rfl, FPM_t hf q2, hfL, q3⟩
    | none =>
      rw [e1] at s4
      obtain ⟨sw, sM⟩ := s4
      have k2 := nxK_i k1
      have hM : MS n t sd Q.1.1 (Q.1.2.1 + 1) (yVn Q (nxK n t K).2.2.2) (nxK n t (nxK n t K)) (z2 (z2 J2 267 (8 * (1 - sd) + Q.1.2.1) (nI 0)) 270 (8 * (1 - sd) + Q.1.2.1) (nI 0)) L2 := MS_i (MS0_to (MS_0 sM) (by rw [z2_ne (by decide), z2_ne (by decide)]) (by rw [z2_ne (by decide), z2_ne (by decide)]) rfl) (RM_d0 (hE.2 _ (Nat.le_refl _)).2 (hE.2 _ (Nat.le_refl _)).1 sM.2.2.2.2.2)
      have hN' : QN (yVn Q (nxK n t K).2.2.2) := ⟨hN.1, hN.2.1, hN.2.2.1, hN.2.2.2.1, fun x hx => by
        show wrd (va_up Q.2.2.2.2.2.2.1 Q.1.2.1 _ x)
        have hx' : x < Q.1.2.1 := hx
        rw [va_up_ne _ _ (by omega)]
        exact hN.2.2.2.2.1 x hx', hN.2.2.2.2.2⟩
      obtain ⟨J3, L3, q1, q2, q3, q4⟩ := M_pattern_t (ρ := ρ) (d := d) (c := c) (R := R) (Q := yVn Q (nxK n t K).2.2.2) k2 hB c0 (by show (Q.2.2.2.2.2.2.2.1 Q.1.2.1).length < 3; rw [(hE.2 _ (Nat.le_refl _)).2]; decide) (by show Q.1.2.1 < Q.1.2.1 + 1; omega) hM
      rw [show EV ρ (d + 5) 32 0 [.ref 257, .int (nI (8 * (1 - sd) + Q.1.2.1)), zU] [] (mk c R (z2 (z2 J2 267 (8 * (1 - sd) + Q.1.2.1) (nI 0)) 270 (8 * (1 - sd) + Q.1.2.1) (nI 0)) L2) = _ from q1, zcv, sw]
      simp only
      rw [show q_vn Q (va_up Q.2.2.2.2.2.2.1 Q.1.2.1 (nxK n t K).2.2.2) = yVn Q (nxK n t K).2.2.2 from rfl, yPats_s]
      by_cases c4 : (nxK n t (nxK n t K)).1 = 4
      · rw [if_pos c4] at q4
        simp only [if_pos c4]
        obtain ⟨i1, i2, i3, i4, i5⟩ := k2.2.2.2.2.2.2.2 c4
        have hlen0 : ((yVn Q (nxK n t K).2.2.2).2.2.2.2.2.2.2.1 (yVn Q (nxK n t K).2.2.2).1.2.1).length = 0 := by show (Q.2.2.2.2.2.2.2.1 Q.1.2.1).length = 0; rw [(hE.2 _ (Nat.le_refl _)).2]; rfl
        have hB' := yPt_v (Q := yVn Q (nxK n t K).2.2.2) (w := (nxK n t (nxK n t K)).2.2.2) (by omega) ⟨i4, i2⟩ hB
        obtain ⟨J4, L4, p1, p2, p3, p4⟩ := dr_pats (ρ := ρ) (d := d) (c := c) (R := R) (w := (nxK n t K).2.2.2) 2 (yPt (yVn Q (nxK n t K).2.2.2) (nxK n t (nxK n t K)).2.2.2) (nxK n t (nxK n t (nxK n t K))) J3 L3 (nxK_i k2) hN' hB' (by show (va_up Q.2.2.2.2.2.2.2.1 Q.1.2.1 (Q.2.2.2.2.2.2.2.1 Q.1.2.1 ++ [_]) Q.1.2.1).length + 2 = 3; rw [va_up_self, (hE.2 _ (Nat.le_refl _)).2]; rfl) (hE.2 _ (Nat.le_refl _)).1 c0 (va_up_self _ _ _) q4
        refine ⟨J4, L4, p1, FPM_t (FPM_t hf q2) p2, FPM_t (FPM_t hfL q3) p3, ?_⟩
        cases e3 : (if kW 4 (nxK n t (nxK n t (nxK n t K))) = true then yPats n t 2 (yPt (yVn Q (nxK n t K).2.2.2) (nxK n t (nxK n t K)).2.2.2) (nxK n t (nxK n t (nxK n t K))) else .ok (yPt (yVn Q (nxK n t K).2.2.2) (nxK n t (nxK n t K)).2.2.2, nxK n t (nxK n t (nxK n t K)))) with
        | error y => rw [e3] at p4; simp only at p4 ⊢; exact p4
        | ok y =>
          obtain ⟨Q1, K1⟩ := y
          rw [e3] at p4
          simp only at p4 ⊢
          cases e4 : ySteps n t 6 Q1 K1 with
          | error y => rw [e4] at p4; simp only at p4 ⊢; exact p4
          | ok y =>
            obtain ⟨Q2, K2⟩ := y
            rw [e4] at p4
            simp only at p4 ⊢
            have e3' : yPats n t 3 (yVn Q (nxK n t K).2.2.2) (nxK n t K) = .ok (Q1, K1) := by rw [yPats_s, if_pos c4]; exact e3
            obtain ⟨x1, x2, x3, x4, x5⟩ := yPats_v 3 _ _ k1 (by omega) e3' hN' hB
            have x6 : Q1.1.2.1 = Q.1.2.1 := by rw [x5]; rfl
            obtain ⟨z1, z2', z3, z4, z5, z6⟩ := ySteps_v 6 Q1 K1 x3 (by rw [x6, show Q1.2.2.2.1 = Q.2.2.2.1 from by rw [x5]; rfl, (hE.2 _ (Nat.le_refl _)).1]; rfl) e4 x1 x2
            have x7 : Q2.1.1 = Q.1.1 := by rw [z6, x5]; rfl
            rw [x7]
            exact p4
      · rw [if_neg c4] at q4
        simp only [if_neg c4]
        rw [dr_f73 q4]
        exact ⟨_, _, rfl, FPM_t hf q2, FPM_t hfL q3, q4⟩
  · simp only [if_neg c0]
    have hF := FSt_w hK hn a5 (y := 4) (by decide) (by decide)
    rw [if_pos (by rw [show Q.1.2.1 = 8 from by omega]), M_wrong_e (d := d + 4) a4, zcv, bM_driverLine_29, M_next_f (d := d + 4) hF, zcv, bM_driverLine_33, if_neg (FSt_n hF).1]
    exact ⟨_, _, rfl, FPM_w FPM_r, FPM_r, hF⟩
end MBRD
