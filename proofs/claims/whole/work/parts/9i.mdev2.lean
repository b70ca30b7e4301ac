-- THE REFERENCE READS: a device's parent, a device's line
section MDEV2
variable {ρ : Nat × (Nat → Int32)} {d : Nat} {c : Nat × Nat} {R : Nat → Nat → Option Nat} {I J : Nat → Nat → Int32} {L L' : Nat → Nat → Int64} {n : Nat} {t : Nat → Nat} {sd m u b : Nat} {Q Q' : QT} {K : Tk} {e : Nat}
theorem dl_par {w : List Nat} (hK : TkI n t K) (hN : QN Q) (hB : QB Q) (h12 : Q.1.1 < 12) (hw : Q.2.2.2.2.1 Q.1.1 = w) (hne : Q.2.2.1 Q.1.1 = []) (h : MS n t sd (Q.1.1 + 1) u Q K I L) :
    ∃ J L', EV ρ (d + 5) 29 85 [.ref 257, .int (nI (1 - sd)), .int (nI Q.1.1), .int (nI (12 * (1 - sd) + Q.1.1)), .long (c56 w), zU, zU, zU] [] (mk c R I L) = some ([], mk c R J L') ∧ FPM (1 - sd) I J ∧ FPM (1 - sd) L L' ∧ (match yPar n t Q K with
      | .error e => FSt e J
      | .ok (Q1, K1) => match yNeeds n t 3 Q1 K1 with
        | .error e => FSt e J
        | .ok (Q', K') => MS n t sd (Q'.1.1 + 1) u (q_nd Q' (Q'.1.1 + 1)) K' J L') := by
  have h' := h
  obtain ⟨a1, a2, a3, a4, a5, a6⟩ := h
  have hn := a1.2.1
  rw [bM_deviceLine_85, M_isWord_e (d := d + 3) hK a4 a5 (i := 2) (by decide) rfl, zci, bM_deviceLine_91]
  unfold yPar
  by_cases c1 : kW 2 K = true
  · have hk1 := (kW_i.mp c1).1
    have k1 := nxK_i hK
    rw [c1, if_neg (by decide)]
    simp only [if_true]
    obtain ⟨J1, L1, b1, b2, b3, b4⟩ := MS_next (ρ := ρ) (d := d + 1) (c := c) (R := R) hK h' (by omega)
    obtain ⟨g1, g2, g3, g4, g5, g6⟩ := id b2
    rw [b1, zcv, bM_deviceLine_98, M_freeWord_e (d := d + 1) k1 g4 g5, zcl, bM_deviceLine_102]
    by_cases c2 : fre (nxK n t K) = true
    · have hk2 := (fre_i c2).1
      have hw2 := k1.2.2.2.2.1 hk2
      simp only [if_pos c2]
      rw [g4, if_pos (by decide), pk_mul, g5.2.2.2.1 hk2, M_found_e (d := d + 3) (q := 260) (N := 24) (f := Q.2.2.2.2.1) rfl (by decide) (by omega) (fun k hk => ⟨g6.2.1.1 k hk, hN.2.2.2.1 k hk⟩) hw2, zci, bM_deviceLine_135, zidx_n (by omega) (by decide), bM_deviceLine_136, z2_ne (by decide), g4, if_pos (by decide), zidx_n (by omega) (by decide), z2_at]
      cases e1 : fnd Q.2.2.2.2.1 Q.1.1 (nxK n t K).2.2.2 with
      | none =>
        have hF : FSt (er (nxK n t K) 3) (wr (z2 J1 263 (12 * (1 - sd) + Q.1.1) (eO none)) 3) := FSt_w (L := L1) k1 hn (MS0_to (J := z2 J1 263 (12 * (1 - sd) + Q.1.1) (eO none)) (MS_0 b2) (z2_ne (by decide)) (z2_ne (by decide)) rfl).2.2.2.2 (by decide) (by decide)
        rw [if_neg (by decide), M_wrong_e (d := d + 3) (by rw [z2_ne (by decide)]; exact g4), zcv, bM_deviceLine_157, M_next_f (d := d + 3) hF, zcv, dl_f161 hF]
        refine ⟨_, _, rfl, FPM_w (FPM_z (FPM_7 b3) (by decide) (by decide) ?_ ?_), FPM_7 b4, hF⟩
        · show 12 * (1 - sd) ≤ _; omega
        · show _ < 12 * (1 - sd) + 12; omega
      | some y =>
        have hy := (fnd_s e1).1
        rw [if_pos (show (0 : Int32) ≤ eO (some y) from nI_pos' (by omega)), bM_deviceLine_157]
        have hM : MS n t sd (Q.1.1 + 1) u (q_pa Q (va_up Q.2.1 Q.1.1 (some y))) (nxK n t K) (z2 J1 263 (12 * (1 - sd) + Q.1.1) (nI y)) L1 := MS_i (MS0_to (MS_0 b2) (z2_ne (by decide)) (z2_ne (by decide)) rfl) (RM_pa g6)
        obtain ⟨J2, L2, s1, s2, s3, s4⟩ := MS_next (ρ := ρ) (d := d + 1) (c := c) (R := R) k1 hM (by omega)
        rw [show eO (some y) = nI y from rfl, s1, zcv]
        have hB' : QB (q_pa Q (va_up Q.2.1 Q.1.1 (some y))) := ⟨fun x z hz => by
          have hz' : va_up Q.2.1 Q.1.1 (some y) x = some z := hz
          by_cases ex : x = Q.1.1
          · rw [ex, va_up_self] at hz'; cases hz'; rw [ex]; exact hy
          · rw [va_up_ne _ _ ex] at hz'; exact hB.1 x z hz', hB.2⟩
        obtain ⟨J3, L3, q1, q2, q3, q4⟩ := dl_needs (ρ := ρ) (d := d) (c := c) (R := R) (w := w) 3 (q_pa Q (va_up Q.2.1 Q.1.1 (some y))) (nxK n t (nxK n t K)) J2 L2 (nxK_i k1) hN hB' (by show (Q.2.2.1 Q.1.1).length + 3 = 3; rw [hne]; rfl) h12 hw s2
        refine ⟨J3, L3, q1, FPM_t (FPM_t (FPM_z (FPM_7 b3) (by decide) (by decide) ?_ ?_) (FPM_7 s3)) q2, FPM_t (FPM_t (FPM_7 b4) (FPM_7 s4)) q3, q4⟩
        · show 12 * (1 - sd) ≤ _; omega
        · show _ < 12 * (1 - sd) + 12; omega
    · have hF := FSt_w k1 hn g5 (y := 1) (by decide) (by decide)
      have hF2 : FSt (er (nxK n t K) 1) (z2 (wr J1 1) 263 (12 * (1 - sd) + Q.1.1) (-1)) := FSt_z (by decide) hF
      simp only [if_neg c2]
      rw [if_neg (FSt_n hF).1, bM_deviceLine_135, zidx_n (by omega) (by decide), bM_deviceLine_136, if_neg (FSt_n hF2).2, bM_deviceLine_157, M_next_f (d := d + 3) hF2, zcv, dl_f161 hF2]
      refine ⟨_, _, rfl, FPM_z (FPM_w (FPM_7 b3)) (by decide) (by decide) ?_ ?_, FPM_7 b4, hF2⟩
      · show 12 * (1 - sd) ≤ _; omega
      · show _ < 12 * (1 - sd) + 12; omega
  · have c1' : kW 2 K = false := by rw [Bool.eq_false_iff]; exact c1
    rw [c1', if_pos (by decide)]
    simp only [Bool.false_eq_true, if_false]
    obtain ⟨J3, L3, q1, q2, q3, q4⟩ := dl_needs (ρ := ρ) (d := d) (c := c) (R := R) (w := w) 3 Q K I L hK hN hB (by rw [hne]; rfl) h12 hw h'
    exact ⟨J3, L3, q1, q2, q3, q4⟩
/-- a device's line -/
theorem M_deviceLine_e (hK : TkI n t K) (h1 : K.1 = 1) (hN : QN Q) (hB : QB Q) (hE : QE Q) (h : MS n t sd Q.1.1 Q.1.2.1 Q K I L) : ∃ J L', EV ρ (d + 5) 29 0 [.ref 257, zU, zU, zU, zU, zU, zU, zU] [] (mk c R I L) = some ([], mk c R J L') ∧ FPM (1 - sd) I J ∧ FPM (1 - sd) L L' ∧ (match yDevL n t Q K with
    | .error e => FSt e J
    | .ok (Q', K') => MS n t sd Q'.1.1 Q'.1.2.1 Q' K' J L') := by
  have h' := h
  obtain ⟨a1, a2, a3, a4, a5, a6⟩ := h
  obtain ⟨⟨r1, r2, r3⟩, a7⟩ := id a6
  have hn := a1.2.1
  have h12 := hN.1
  rw [bM_deviceLine_0, a2, pk_sub (by omega), pk_mul, zidx_n (by omega) (by decide), r1]
  unfold yDevL
  by_cases c0 : Q.1.1 < 12
  · simp only [if_pos c0]
    rw [if_neg (fun z => by have := (nI_eq (by omega) (by omega)).mp z; omega), bM_deviceLine_27]
    obtain ⟨J1, L1, b1, b2, b3, b4⟩ := MS_next (ρ := ρ) (d := d + 1) (c := c) (R := R) hK h' (by omega)
    obtain ⟨g1, g2, g3, g4, g5, g6⟩ := id b2
    have k1 := nxK_i hK
    rw [b1, zcv, bM_deviceLine_31, g4, if_pos (by decide), pk_mul, nI_add]
    obtain ⟨w, J2, L2, s1, s2, s3, s4⟩ := M_newName_e (ρ := ρ) (d := d) (c := c) (R := R) k1 hN b2
    rw [s1, zcl, bM_deviceLine_50, pk_mul]
    cases e1 : yNew Q (nxK n t K) with
    | some y =>
      rw [e1] at s4
      rw [M_signs_f s4, zci]
      obtain ⟨J3, q1, q2, q3⟩ := dl_f70 (ρ := ρ) (d := d) (c := c) (R := R) (L := L2) (k := 12 * (1 - sd) + Q.1.1) (b := 1 - sd) (by omega) (by omega) (by omega) s4 (nI (1 - sd)) (nI Q.1.1) (nI 0) w
      exact ⟨J3, L2, q1, FPM_t (FPM_t (FPM_7 b3) s2) q2, FPM_t (FPM_7 b4) s3, q3⟩
    | none =>
      rw [e1] at s4
      obtain ⟨sw, sM⟩ := s4
      have k2 := nxK_i k1
      obtain ⟨v, J3, L3, p1, p2, p3, p4, p5, p6⟩ := M_signs_t (ρ := ρ) (d := d) (c := c) (R := R) (q := 261) (N := 192) (a := 8 * (12 * (1 - sd) + Q.1.1)) (pl := true) k2 rfl (by decide) (by decide) (by decide) (by omega) (by show 96 * (1 - sd) ≤ _; omega) (by show _ ≤ 96 * (1 - sd) + 96; omega) (MS_0 sM)
      rw [show nI 1 = bo true from rfl, p1, zci]
      have hf : FPM (1 - sd) I J3 := FPM_t (FPM_t (FPM_7 b3) s2) p2
      have hfL : FPM (1 - sd) L L3 := FPM_t (FPM_t (FPM_7 b4) s3) p3
      have hbad : ∀ y, FSt y J3 → ∃ J L', EV ρ (d + 5) 29 70 [.ref 257, .int (nI (1 - sd)), .int (nI Q.1.1), .int (nI (12 * (1 - sd) + Q.1.1)), .long w, zU, zU, zU] [.int v, .int (nI (12 * (1 - sd) + Q.1.1)), .ref 262] (mk c R J3 L3) = some ([], mk c R J L') ∧ FPM (1 - sd) I J ∧ FPM (1 - sd) L L' ∧ FSt y J := fun y hy => by
        obtain ⟨J4, q1, q2, q3⟩ := dl_f70 (ρ := ρ) (d := d) (c := c) (R := R) (L := L3) (k := 12 * (1 - sd) + Q.1.1) (b := 1 - sd) (by omega) (by omega) (by omega) hy (nI (1 - sd)) (nI Q.1.1) v w
        exact ⟨J4, L3, q1, FPM_t hf q2, hfL, q3⟩
      unfold yId
      by_cases c4 : (nxK n t (nxK n t K)).1 = 4
      · rw [if_pos c4] at p6
        simp only [if_pos c4]
        by_cases c5 : (nxK n t (nxK n t K)).2.2.2.all isLi = true
        · simp only [if_pos c5]
          rw [if_neg (show ¬ (true = true ∧ ¬ (nxK n t (nxK n t K)).2.2.2.all isLi = true) from fun z => z.2 c5)] at p6
          obtain ⟨p7, p8, p9⟩ := p6
          obtain ⟨i1, i2, i3, i4, i5⟩ := k2.2.2.2.2.2.2.2 c4
          have k3 := nxK_i k2
          rw [bM_deviceLine_70, zidx_n (by omega) (by decide), bM_deviceLine_71, zidx_n (by omega) (by decide), bM_deviceLine_78, zidx_n (by omega) (by decide), p7, sw]
          have hR := RM_dv (w := (nxK n t K).2.2.2) (i := (nxK n t (nxK n t K)).2.2.2) hB i4 (hE.1 _ (Nat.le_refl _)).1 (hE.1 _ (Nat.le_refl _)).2 sM.2.2.2.2.2 p4 p5 p9
          have hM : MS n t sd (Q.1.1 + 1) Q.1.2.1 (yDv Q (nxK n t K).2.2.2 (nxK n t (nxK n t K)).2.2.2) (nxK n t (nxK n t (nxK n t K))) _ L3 := MS_i (MS0_to p8 (by rw [z2_ne (by decide), z2_ne (by decide), z2_ne (by decide)]) (by rw [z2_ne (by decide), z2_ne (by decide), z2_ne (by decide)]) rfl) hR
          obtain ⟨v1, v2⟩ := yDv_v (Q := Q) (w := (nxK n t K).2.2.2) (i := (nxK n t (nxK n t K)).2.2.2) ⟨i4, i2⟩ hN hB
          obtain ⟨J4, L4, q1, q2, q3, q4⟩ := dl_par (ρ := ρ) (d := d) (c := c) (R := R) (Q := yDv Q (nxK n t K).2.2.2 (nxK n t (nxK n t K)).2.2.2) (w := (nxK n t K).2.2.2) k3 v1 v2 c0 (va_up_self _ _ _) (hE.1 _ (Nat.le_refl _)).2 hM
          refine ⟨J4, L4, q1, FPM_t (FPM_z (FPM_z (FPM_z hf (by decide) (by decide) ?_ ?_) (by decide) (by decide) ?_ ?_) (by decide) (by decide) ?_ ?_) q2, FPM_t hfL q3, ?_⟩
          · show 12 * (1 - sd) ≤ _; omega
          · show _ < 12 * (1 - sd) + 12; omega
          · show 12 * (1 - sd) ≤ _; omega
          · show _ < 12 * (1 - sd) + 12; omega
          · show 12 * (1 - sd) ≤ _; omega
          · show _ < 12 * (1 - sd) + 12; omega
          · change (match yPar n t (yDv Q (nxK n t K).2.2.2 (nxK n t (nxK n t K)).2.2.2) (nxK n t (nxK n t (nxK n t K))) with
              | .error e => FSt e J4
              | .ok (Q1, K1) => match yNeeds n t 3 Q1 K1 with
                | .error e => FSt e J4
                | .ok (Q', K') => MS n t sd (Q'.1.1 + 1) Q.1.2.1 (q_nd Q' (Q'.1.1 + 1)) K' J4 L4) at q4
            unfold yDv at q4 v1 v2
            cases e3 : yPar n t (q_di (q_dn Q (va_up Q.2.2.2.2.1 Q.1.1 (nxK n t K).2.2.2)) (va_up Q.2.2.2.2.2.1 Q.1.1 (nxK n t (nxK n t K)).2.2.2)) (nxK n t (nxK n t (nxK n t K))) with
            | error y => rw [e3] at q4; simp only at q4 ⊢; exact q4
            | ok y =>
              obtain ⟨Q1, K1⟩ := y
              rw [e3] at q4
              simp only at q4 ⊢
              cases e4 : yNeeds n t 3 Q1 K1 with
              | error y => rw [e4] at q4; simp only at q4 ⊢; exact q4
              | ok y =>
                obtain ⟨Q2, K2⟩ := y
                rw [e4] at q4
                simp only at q4 ⊢
                obtain ⟨x1, x2, x3, x4, x5⟩ := yPar_v k3 e3 v1 v2
                have x6 : Q1.1.1 = Q.1.1 := by rw [x5]
                obtain ⟨z1, z2', z3, z4, z5, z6⟩ := yNeeds_v 3 Q1 K1 x3 (by rw [x6, show Q1.2.2.1 = Q.2.2.1 from by rw [x5], (hE.1 _ (Nat.le_refl _)).2]; rfl) e4 x1 x2
                have x7 : Q2.1.2.1 = Q.1.2.1 := by rw [z6, x5]
                rw [x7]
                exact q4
        · simp only [if_neg c5]
          rw [if_pos (show (true = true ∧ ¬ (nxK n t (nxK n t K)).2.2.2.all isLi = true) from ⟨rfl, c5⟩)] at p6
          exact hbad _ p6
      · rw [if_neg c4] at p6
        simp only [if_neg c4]
        exact hbad _ p6
  · simp only [if_neg c0]
    have hF := FSt_w hK hn a5 (y := 4) (by decide) (by decide)
    rw [if_pos (by rw [show Q.1.1 = 12 from by omega]), M_wrong_e (d := d + 3) a4, zcv, bM_deviceLine_27, M_next_f (d := d + 3) hF, zcv, bM_deviceLine_31, if_neg (FSt_n hF).1]
    exact ⟨_, _, rfl, FPM_w FPM_r, FPM_r, hF⟩
end MDEV2
