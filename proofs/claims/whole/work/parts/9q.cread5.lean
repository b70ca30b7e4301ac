-- THE COMPONENT READS: lines
section CREAD5
variable {ρ : Nat × (Nat → Int32)} {d : Nat} {c : Nat × Nat} {R R' : Nat → Nat → Option Nat} {I J : Nat → Nat → Int32} {L L' : Nat → Nat → Int64} {n : Nat} {t : Nat → Nat} {p m u : Nat} {Q : QT} {K : Tk} {e : Nat}
theorem li_loop {a b : Nat} (h : TC n t I) (hb : b ≤ n) : ∀ (j i : Nat), b - i = j → a ≤ i → i ≤ b → EV ρ (d + 2) 151 5 [.ref 3, zU, .int (nI b), .int (nI ((slc t a i).countP isLi)), .int (nI i)] [] (mk c R I L) = some ([.int (nI ((slc t a b).countP isLi))], mk c R I L) := by
  intro j
  have hn := h.2.1
  induction j with
  | zero =>
    intro i hj ha hi
    have e : i = b := by omega
    subst e
    rw [bPar_literals_5, if_pos (nI_le (Nat.le_refl _) (by omega))]
  | succ j ih =>
    intro i hj ha hi
    have hti := (h.2.2 i (by omega)).2
    have ec : (slc t a (i + 1)).countP isLi = (slc t a i).countP isLi + (isLi (t i)).toNat := by
      rw [slc_s t ha, List.countP_append]
      congr 1
    rw [bPar_literals_5, if_neg (nI_ge (by omega) (by omega)), Tap_at_e h (by omega), zci, bPar_literals_21, nI_add, nI_add]
    have hi1 := ih (i + 1) (by omega) (by omega) (by omega)
    rw [ec] at hi1
    by_cases c1 : t i = 63
    · rw [if_pos ((sb_e 63 (by decide) _ hti).mpr c1)]
      rw [c1] at hi1
      exact hi1
    · rw [if_neg (fun z => c1 ((sb_e 63 (by decide) _ hti).mp z)), Tap_at_e h (by omega), zci, bPar_literals_35, nI_add, nI_add, nI_add]
      by_cases c2 : t i = 42
      · rw [if_pos ((sb_e 42 (by decide) _ hti).mpr c2)]
        rw [c2] at hi1
        exact hi1
      · rw [if_neg (fun z => c2 ((sb_e 42 (by decide) _ hti).mp z))]
        rw [show isLi (t i) = true from by unfold isLi; rw [beq_eq_false_iff_ne.mpr c1, beq_eq_false_iff_ne.mpr c2]; rfl] at hi1
        exact hi1
theorem Par_literals_e {a b : Nat} (h : TC n t I) (ha : a ≤ b) (hb : b ≤ n) : EV ρ (d + 2) 151 0 [.ref 3, .int (nI a), .int (nI b), zU, zU] [] (mk c R I L) = some ([.int (nI ((slc t a b).countP isLi))], mk c R I L) := by
  have := li_loop (ρ := ρ) (d := d) (c := c) (R := R) (L := L) h hb _ a rfl (Nat.le_refl _) ha
  rw [slc_0] at this
  rw [bPar_literals_0]
  exact this
theorem RC_dv {w i : List Nat} (hp : isP p) (hw : L (p + 1) Q.1.1 = c27 w) (hi : OnT n t i (I 4 Q.1.1) (I 5 Q.1.1)) (h : RC n t Q.1.1 u Q p R I L) : RC n t (Q.1.1 + 1) u (yDv Q w i) p R I L := by
  obtain ⟨h1, ⟨s1, s2, s3⟩, h3, h4⟩ := h
  refine ⟨h1, ⟨fun x hx => ?_, s2, s3⟩, fun x hx => ?_, h4⟩
  · show _ = c27 (va_up Q.2.2.2.2.1 Q.1.1 w x)
    by_cases ex : x = Q.1.1
    · rw [ex, va_up_self]; exact hw
    · rw [va_up_ne _ _ ex]; exact s1 x (by omega)
  · show OnT n t (va_up Q.2.2.2.2.2.1 Q.1.1 i x) _ _
    by_cases ex : x = Q.1.1
    · rw [ex, va_up_self]; exact hi
    · rw [va_up_ne _ _ ex]; exact h3 x (by omega)
theorem RC_L1 {v : Int64} (h : RC n t Q.1.1 u Q p R I L) : RC n t Q.1.1 u Q p R I (z2 L (p + 1) Q.1.1 v) := by
  obtain ⟨h1, ⟨s1, s2, s3⟩, h3⟩ := h
  refine ⟨h1, ⟨fun x hx => ?_, fun x hx => ?_, fun x hx => ?_⟩, h3⟩
  · rw [z2a, if_neg (by omega)]; exact s1 x hx
  · rw [z2_ne (by omega)]; exact s2 x hx
  · rw [z2_ne (by omega)]; exact s3 x hx
theorem RC_45 {q : Nat} {v : Int32} (hp : isP p) (hq : q = 4 ∨ q = 5) (h : RC n t Q.1.1 u Q p R I L) : RC n t Q.1.1 u Q p R (z2 I q Q.1.1 v) L := by
  have := isP_g hp
  obtain ⟨h1, h2, h3, h4, h5, h6, h7, h8⟩ := h
  refine ⟨?_, h2, fun x hx => ?_, ?_, ?_, ?_, ?_, ?_⟩
  · unfold RCc at h1 ⊢; rw [z2_ne (by omega)]; exact h1
  · rw [z2a, if_neg (by omega), z2a, if_neg (by omega)]; exact h3 x hx
  · unfold RCp at h4 ⊢; rw [z2_ne (by omega), z2_ne (by omega)]; exact h4
  · unfold RCe at h5 ⊢; rw [z2_ne (by omega), z2_ne (by omega), z2_ne (by omega)]; exact h5
  · unfold RCt at h6 ⊢; rw [z2_ne (by omega), z2_ne (by omega), z2_ne (by omega)]; exact h6
  · unfold RCs at h7 ⊢; rw [z2_ne (by omega), z2_ne (by omega), z2_ne (by omega), z2_ne (by omega)]; exact h7
  · unfold RCr at h8 ⊢; rw [z2_ne (by omega)]; exact h8
theorem RC_vn {w : List Nat} (h : RC n t m Q.1.2.1 Q p R I L) : RC n t m (Q.1.2.1 + 1) (yVn Q w) p R I (z2 L (p + 2) Q.1.2.1 (c27 w)) := by
  obtain ⟨h1, ⟨s1, s2, s3⟩, h3⟩ := h
  refine ⟨h1, ⟨fun x hx => ?_, fun x hx => ?_, fun x hx => ?_⟩, h3⟩
  · rw [z2_ne (by omega)]; exact s1 x hx
  · show _ = c27 (va_up Q.2.2.2.2.2.2.1 Q.1.2.1 w x)
    by_cases ex : x = Q.1.2.1
    · rw [ex, z2_at, va_up_self]
    · rw [z2a, if_neg (by omega), va_up_ne _ _ ex]; exact s2 x (by omega)
  · rw [z2_ne (by omega)]; exact s3 x hx
theorem RC_cnt {Q' : QT} {j : Nat} {v : Int32} (hp : isP p) (h2 : Q'.2 = Q.2) (h0 : Q'.1.2.2 = Q.1.2.2) (h : RC n t m u Q p R I L) (hc : RCc Q' p (z2 I p j v)) : RC n t m u Q' p R (z2 I p j v) L := by
  have := isP_g hp
  obtain ⟨g1, g2, h3, h4, h5, h6, h7, h8⟩ := h
  unfold RCn RCi RCp RCe RCt RCs RCr at *
  refine ⟨hc, ?_, ?_, ?_, ?_, ?_, ?_, ?_⟩
  · unfold RCn; rw [h2, h0]; exact g2
  · unfold RCi; rw [h2, z2_ne (by omega), z2_ne (by omega)]; exact h3
  · unfold RCp; rw [h2, z2_ne (by omega), z2_ne (by omega)]; exact h4
  · unfold RCe; rw [h2, z2_ne (by omega), z2_ne (by omega), z2_ne (by omega)]; exact h5
  · unfold RCt; rw [h2, z2_ne (by omega), z2_ne (by omega), z2_ne (by omega)]; exact h6
  · unfold RCs; rw [h2, z2_ne (by omega), z2_ne (by omega), z2_ne (by omega), z2_ne (by omega)]; exact h7
  · unfold RCr; rw [z2_ne (by omega)]; exact h8
/-- a device's line -/
theorem Par_device_e (hK : TkI n t K) (hN : QN Q) (hB : QB Q) (hE : QE Q) (h : CS n t Q.1.1 Q.1.2.1 Q p K R I L) : ∃ (o : Bool) (R' : Nat → Nat → Option Nat) (J : Nat → Nat → Int32) (L' : Nat → Nat → Int64), EV ρ (d + 6) 137 0 [.ref 3, zU] [] (mk c R I L) = some ([.int (bo o)], mk c R' J L') ∧ CF p I J ∧ CF p R R' ∧ CF p L L' ∧ (match yDevL n t Q K with
      | .ok (Q', K') => (K'.1 = 3 → o = true ∧ CS n t Q'.1.1 Q'.1.2.1 Q' p K' R' J L') ∧ (K'.1 ≠ 3 → o = false ∧ FSd (er K' 1) J)
      | .error e => o = false ∧ FSd e J) := by
  obtain ⟨a1, a2, a3, a4, a5, a6⟩ := id h
  have hn := a1.2.1
  have hpg := isP_g a2
  have h12 := hN.1
  rw [bPar_readDevice_0, a3, zrs, zob (xp_o a2), a6.1.1]
  unfold yDevL
  by_cases c0 : Q.1.1 < 12
  · simp only [if_pos c0]
    have k1 := nxK_i hK
    obtain ⟨R1, J1, L1, b1, b2, b3, b4, b5⟩ := CS_step (ρ := ρ) (d := d + 1) (c := c) hK h
    obtain ⟨g1, g2, g3, g4, g5, g6⟩ := id b2
    rw [if_pos (nI_lt c0 (by decide)), b1, zcv, bPar_readDevice_24, Par_newName_e (d := d + 2) k1 hN (Nat.le_refl _) (Nat.le_refl _) b2, zci, bPar_readDevice_28]
    cases e1 : yNew Q (nxK n t K) with
    | some y =>
      rw [if_pos (show bo (some y).isNone = 0 from rfl)]
      exact ⟨false, _, _, _, rfl, CF_z (CF_3 b3) (by omega), CF_3 b4, CF_3 b5, rfl, FSd_i k1 hn (yNew_er e1)⟩
    | none =>
      obtain ⟨n1, n2, n3⟩ := yNew_n e1
      have k2 := nxK_i k1
      have k25 := k2.1
      rw [if_neg (by decide), g3, zrs, zob (xp_o a2), xp_F3 a2, zrs, zar (xp_a1 a2), zidx_n c0 (by decide), g5.2.2.2.2 (fre_i n1).1, bPar_readDevice_46]
      have hM1 : CS n t Q.1.1 Q.1.2.1 Q p (nxK n t K) R1 J1 (z2 L1 (p + 1) Q.1.1 (c27 (nxK n t K).2.2.2)) := CS_i b2 rfl rfl rfl rfl (z2_ne (by omega)) (RC_L1 g6)
      obtain ⟨R2, J2, L2, s1, s2, s3, s4, s5⟩ := CS_step (ρ := ρ) (d := d + 1) (c := c) k1 hM1
      obtain ⟨x1, x2, x3, x4, x5, x6⟩ := id s2
      have hL2 : L2 (p + 1) Q.1.1 = c27 (nxK n t K).2.2.2 := by rw [FS3_c s5 (by omega), z2_at]
      rw [s1, zcv, bPar_readDevice_50, x5.1]
      have fI2 : CF p I J2 := CF_t (CF_3 b3) (CF_3 s3)
      have fR2 : CF p R R2 := CF_t (CF_3 b4) (CF_3 s4)
      have fL2 : CF p L L2 := CF_t (CF_z (CF_3 b5) (by omega)) (CF_3 s5)
      unfold yId
      by_cases c4 : (nxK n t (nxK n t K)).1 = 4
      · simp only [if_pos c4]
        obtain ⟨i1, i2, i3, i4, i5⟩ := k2.2.2.2.2.2.2.2 c4
        have haf := k2.2.2.1
        rw [if_pos (by rw [c4]), x5.2.1, x5.2.2.1, nI_add, Par_literals_e (d := d + 3) x1 (by omega) haf, zci, ← i1, bPar_readDevice_78, x5.2.1, x5.2.2.1, pk_sub (by omega), pk_sub (by omega), nI_add]
        have hcl := List.countP_le_length (p := isLi) (l := (nxK n t (nxK n t K)).2.2.2)
        by_cases c5 : (nxK n t (nxK n t K)).2.2.2.all isLi = true
        · simp only [if_pos c5]
          have hal := cP_all.mpr c5
          rw [if_pos (nI_le (by omega) (by omega)), zidx_n c0 (by decide), bPar_readDevice_110, zidx_n c0 (by decide), z2_ne (by omega), x5.2.2.1, bPar_readDevice_120]
          have k3 := nxK_i k2
          have hR := RC_45 (q := 5) (v := nI (nxK n t (nxK n t K)).2.2.1) a2 (.inr rfl) (RC_45 (q := 4) (v := nI ((nxK n t (nxK n t K)).2.1 + 1)) a2 (.inl rfl) x6)
          have hR2 : RC n t (Q.1.1 + 1) Q.1.2.1 (yDv Q (nxK n t K).2.2.2 (nxK n t (nxK n t K)).2.2.2) p R2 (z2 (z2 J2 4 Q.1.1 (nI ((nxK n t (nxK n t K)).2.1 + 1))) 5 Q.1.1 (nI (nxK n t (nxK n t K)).2.2.1)) L2 := RC_dv a2 hL2 (by rw [z2_ne (by omega), z2_at, z2_at]; exact OnT_k k2 c4) hR
          have hM2 : CS n t (Q.1.1 + 1) Q.1.2.1 (yDv Q (nxK n t K).2.2.2 (nxK n t (nxK n t K)).2.2.2) p (nxK n t (nxK n t K)) R2 (z2 (z2 J2 4 Q.1.1 (nI ((nxK n t (nxK n t K)).2.1 + 1))) 5 Q.1.1 (nI (nxK n t (nxK n t K)).2.2.1)) L2 := CS_i s2 (by rw [z2_ne (by omega), z2_ne (by omega)]) (by rw [z2_ne (by omega), z2_ne (by omega)]) (by rw [z2_ne (by omega), z2_ne (by omega)]) rfl rfl hR2
          obtain ⟨R3, J3, L3, q1, q2, q3, q4, q5⟩ := CS_step (ρ := ρ) (d := d + 1) (c := c) k2 hM2
          obtain ⟨v1, v2⟩ := yDv_v (Q := Q) (w := (nxK n t K).2.2.2) (i := (nxK n t (nxK n t K)).2.2.2) ⟨i4, i2⟩ hN hB
          obtain ⟨R4, J4, L4, p1, p2, p3, p4, p5⟩ := Par_parent_e (ρ := ρ) (d := d) (c := c) (Q := yDv Q (nxK n t K).2.2.2 (nxK n t (nxK n t K)).2.2.2) k3 v1 c0 (by show Q.1.1 ≤ Q.1.1 + 1; omega) q2
          have p1' : EV ρ (d + 5) 138 0 [.ref 3, .int (nI Q.1.1), zU] [] (mk c R3 J3 L3) = _ := p1
          rw [q1, zcv, bPar_readDevice_124, p1', zci, bPar_readDevice_129]
          have fI4 : CF p I J4 := CF_t (CF_t (CF_z (CF_z fI2 (by omega)) (by omega)) (CF_3 q3)) p2
          have fR4 : CF p R R4 := CF_t (CF_t fR2 (CF_3 q4)) p3
          have fL4 : CF p L L4 := CF_t (CF_t fL2 (CF_3 q5)) p4
          rw [show q_di (q_dn Q (va_up Q.2.2.2.2.1 Q.1.1 (nxK n t K).2.2.2)) (va_up Q.2.2.2.2.2.1 Q.1.1 (nxK n t (nxK n t K)).2.2.2) = yDv Q (nxK n t K).2.2.2 (nxK n t (nxK n t K)).2.2.2 from rfl]
          cases e3 : yPar n t (yDv Q (nxK n t K).2.2.2 (nxK n t (nxK n t K)).2.2.2) (nxK n t (nxK n t (nxK n t K))) with
          | error y =>
            rw [e3] at p5
            simp only at p5 ⊢
            rw [if_pos (by decide)]
            exact ⟨false, _, _, _, rfl, fI4, fR4, fL4, rfl, p5⟩
          | ok y =>
            obtain ⟨Q1, K1⟩ := y
            rw [e3] at p5
            simp only at p5 ⊢
            obtain ⟨y1, y2, y3, y4, y5⟩ := yPar_v k3 e3 v1 v2
            have e6 : Q1.1.1 = Q.1.1 := by rw [y5]; rfl
            have e7 : Q1.2.2.1 = Q.2.2.1 := by rw [y5]; rfl
            have e8 : Q1.1.2.1 = Q.1.2.1 := by rw [y5]; rfl
            have hne : (Q1.2.2.1 Q1.1.1).length = 0 := by rw [e6, e7, (hE.1 _ (Nat.le_refl _)).2]; rfl
            obtain ⟨R5, J5, L5, r1, r2, r3, r4, r5⟩ := Par_needs_l (ρ := ρ) (d := d) (c := c) 3 Q1 K1 R4 J4 L4 y3 y1 y2 (by omega) (by omega) p5
            rw [hne, e6] at r1
            rw [if_neg (by decide), bPar_readNeeds_0, r1, zci, bPar_readDevice_137]
            have fI5 : CF p I J5 := CF_t fI4 r2
            have fR5 : CF p R R5 := CF_t fR4 r3
            have fL5 : CF p L L5 := CF_t fL4 r4
            cases e4 : yNeeds n t 3 Q1 K1 with
            | error y =>
              rw [e4] at r5
              simp only at r5 ⊢
              rw [if_pos (by decide)]
              exact ⟨false, _, _, _, rfl, fI5, fR5, fL5, rfl, r5⟩
            | ok y =>
              obtain ⟨Q2, K2⟩ := y
              rw [e4] at r5
              simp only at r5 ⊢
              obtain ⟨z1, z2', z3, z4, z5, z6⟩ := yNeeds_v 3 Q1 K1 y3 (by omega) e4 y1 y2
              have f1 : Q2.1.1 = Q.1.1 := by rw [z6]; exact e6
              have f2 : Q2.1.2.1 = Q.1.2.1 := by rw [z6]; exact e8
              obtain ⟨w1, w2, w3, w4, w5, w6⟩ := id r5
              have kk := z3.1
              rw [if_neg (by decide), w5.1]
              by_cases c6 : K2.1 = 3
              · rw [c6, if_pos rfl, w3, zdpp, zrv, zob (xp_o a2), zrv, zob (xp_o a2), w6.1.1, nI_add, bPar_readDevice_169]
                have hfin : RC n t (Q2.1.1 + 1) Q2.1.2.1 (q_nd Q2 (Q2.1.1 + 1)) p R5 (z2 J5 p 0 (nI (Q2.1.1 + 1))) L5 := by
                  rw [f2, f1]
                  refine RC_cnt (Q := Q2) a2 rfl rfl w6 ⟨?_, ?_, ?_⟩
                  · rw [z2_at]
                  · rw [z2a, if_neg (by omega)]; exact w6.1.2.1
                  · rw [z2a, if_neg (by omega)]; exact w6.1.2.2
                refine ⟨true, _, _, _, rfl, CF_z fI5 (by omega), fR5, fL5, fun _ => ⟨rfl, CS_i r5 (z2_ne (by omega)) (z2_ne (by omega)) (z2_ne (by omega)) rfl rfl hfin⟩, fun z => absurd rfl z⟩
              · rw [if_neg (fun z => c6 ((nI_eq (by omega) (by omega)).mp z)), Par_fail_e (d := d + 4) w5, zci, bPar_readDevice_155, zb0]
                exact ⟨false, _, _, _, rfl, CF_z fI5 (by omega), fR5, fL5, fun z => absurd z c6, fun _ => ⟨rfl, FSd_i z3 hn ⟨1, by decide, by decide, rfl⟩⟩⟩
        · simp only [if_neg c5]
          have hlt : (nxK n t (nxK n t K)).2.2.2.countP isLi < (nxK n t (nxK n t K)).2.2.2.length := Nat.lt_of_le_of_ne hcl (fun z => c5 (cP_all.mp z))
          rw [if_neg (nI_ge (by omega) (by omega)), Par_fail_e (d := d + 4) x5, zci, bPar_readDevice_97, zb0]
          exact ⟨false, _, _, _, rfl, CF_z fI2 (by omega), fR2, fL2, rfl, FSd_i k2 hn ⟨2, by decide, by decide, rfl⟩⟩
      · simp only [if_neg c4]
        rw [if_neg (fun z => c4 ((nI_eq (by omega) (by omega)).mp z)), Par_fail_e (d := d + 4) x5, zci, bPar_readDevice_63, zb0]
        exact ⟨false, _, _, _, rfl, CF_z fI2 (by omega), fR2, fL2, rfl, FSd_i k2 hn ⟨1, by decide, by decide, rfl⟩⟩
  · simp only [if_neg c0]
    rw [if_neg (nI_nlt (by omega) (by omega)), Par_fail_e (d := d + 4) a5, zci, bPar_readDevice_19, zb0]
    exact ⟨false, _, _, _, rfl, CF_z CF_r (by omega), CF_r, CF_r, rfl, FSd_i hK hn ⟨4, by decide, by decide, rfl⟩⟩
/-- a driver's line -/
theorem Par_driver_e (hK : TkI n t K) (hN : QN Q) (hB : QB Q) (hE : QE Q) (h : CS n t Q.1.1 Q.1.2.1 Q p K R I L) : ∃ (o : Bool) (R' : Nat → Nat → Option Nat) (J : Nat → Nat → Int32) (L' : Nat → Nat → Int64), EV ρ (d + 6) 140 0 [.ref 3, zU] [] (mk c R I L) = some ([.int (bo o)], mk c R' J L') ∧ CF p I J ∧ CF p R R' ∧ CF p L L' ∧ (match yDrvL n t Q K with
      | .ok (Q', K') => (K'.1 = 3 → o = true ∧ CS n t Q'.1.1 Q'.1.2.1 Q' p K' R' J L') ∧ (K'.1 ≠ 3 → o = false ∧ FSd (er K' 1) J)
      | .error e => o = false ∧ FSd e J) := by
  obtain ⟨a1, a2, a3, a4, a5, a6⟩ := id h
  have hn := a1.2.1
  have hpg := isP_g a2
  have h8 := hN.2.1
  rw [bPar_readDriver_0, a3, zrs, zob (xp_o a2), a6.1.2.1]
  unfold yDrvL
  by_cases c0 : Q.1.2.1 < 8
  · simp only [if_pos c0]
    have k1 := nxK_i hK
    obtain ⟨R1, J1, L1, b1, b2, b3, b4, b5⟩ := CS_step (ρ := ρ) (d := d + 1) (c := c) hK h
    obtain ⟨g1, g2, g3, g4, g5, g6⟩ := id b2
    rw [if_pos (nI_lt c0 (by decide)), b1, zcv, bPar_readDriver_24, Par_newName_e (d := d + 2) k1 hN (Nat.le_refl _) (Nat.le_refl _) b2, zci, bPar_readDriver_28]
    cases e1 : yNew Q (nxK n t K) with
    | some y =>
      rw [if_pos (show bo (some y).isNone = 0 from rfl)]
      exact ⟨false, _, _, _, rfl, CF_z (CF_3 b3) (by omega), CF_3 b4, CF_3 b5, rfl, FSd_i k1 hn (yNew_er e1)⟩
    | none =>
      obtain ⟨n1, n2, n3⟩ := yNew_n e1
      rw [if_neg (by decide), g3, zrs, zob (xp_o a2), xp_F4 a2, zrs, zar (xp_a2 a2), zidx_n c0 (by decide), g5.2.2.2.2 (fre_i n1).1, bPar_readDriver_46, bPar_readPatterns_0]
      have hM1 : CS n t Q.1.1 (Q.1.2.1 + 1) (yVn Q (nxK n t K).2.2.2) p (nxK n t K) R1 J1 (z2 L1 (p + 2) Q.1.2.1 (c27 (nxK n t K).2.2.2)) := CS_i b2 rfl rfl rfl rfl (z2_ne (by omega)) (RC_vn g6)
      have hN' : QN (yVn Q (nxK n t K).2.2.2) := ⟨hN.1, hN.2.1, hN.2.2.1, hN.2.2.2.1, fun x hx => by
        show wrd (va_up Q.2.2.2.2.2.2.1 Q.1.2.1 _ x)
        have hx' : x < Q.1.2.1 := hx
        rw [va_up_ne _ _ (by omega)]
        exact hN.2.2.2.2.1 x hx', hN.2.2.2.2.2⟩
      have hpt : (Q.2.2.2.2.2.2.2.1 Q.1.2.1).length = 0 := by rw [(hE.2 _ (Nat.le_refl _)).2]; rfl
      obtain ⟨R2, J2, L2, s1, s2, s3, s4, s5⟩ := Par_pats_l (ρ := ρ) (d := d) (c := c) 3 (yVn Q (nxK n t K).2.2.2) (nxK n t K) R1 J1 (z2 L1 (p + 2) Q.1.2.1 (c27 (nxK n t K).2.2.2)) k1 hN' hB (by show (Q.2.2.2.2.2.2.2.1 Q.1.2.1).length + 3 = 3; omega) c0 hM1
      have s1' : EV ρ (d + 5) 141 4 [.ref 3, .int (nI Q.1.2.1), .int (nI 1), .int (nI (Q.2.2.2.2.2.2.2.1 Q.1.2.1).length)] [] (mk c R1 J1 (z2 L1 (p + 2) Q.1.2.1 (c27 (nxK n t K).2.2.2))) = _ := s1
      rw [hpt] at s1'
      rw [s1', zci, bPar_readDriver_51]
      have fI2 : CF p I J2 := CF_t (CF_3 b3) s2
      have fR2 : CF p R R2 := CF_t (CF_3 b4) s3
      have fL2 : CF p L L2 := CF_t (CF_z (CF_3 b5) (by omega)) s4
      rw [show q_vn Q (va_up Q.2.2.2.2.2.2.1 Q.1.2.1 (nxK n t K).2.2.2) = yVn Q (nxK n t K).2.2.2 from rfl]
      cases e3 : yPats n t 3 (yVn Q (nxK n t K).2.2.2) (nxK n t K) with
      | error y =>
        rw [e3] at s5
        simp only at s5 ⊢
        rw [if_pos (by decide)]
        exact ⟨false, _, _, _, rfl, fI2, fR2, fL2, rfl, s5⟩
      | ok y =>
        obtain ⟨Q1, K1⟩ := y
        rw [e3] at s5
        simp only at s5 ⊢
        obtain ⟨y1, y2, y3, y4, y5⟩ := yPats_v 3 _ _ k1 (by show (Q.2.2.2.2.2.2.2.1 Q.1.2.1).length + 3 = 3; omega) e3 hN' hB
        have e6 : Q1.1.2.1 = Q.1.2.1 := by rw [y5]; rfl
        have e7 : Q1.2.2.2.1 = Q.2.2.2.1 := by rw [y5]; rfl
        have e8 : Q1.1.1 = Q.1.1 := by rw [y5]; rfl
        have hsp : (Q1.2.2.2.1 Q1.1.2.1).length = 0 := by rw [e6, e7, (hE.2 _ (Nat.le_refl _)).1]; rfl
        obtain ⟨R5, J5, L5, r1, r2, r3, r4, r5⟩ := Par_steps_l (ρ := ρ) (d := d) (c := c) 6 Q1 K1 R2 J2 L2 y3 y1 y2 (by omega) (by omega) s5
        rw [hsp, e6] at r1
        rw [if_neg (by decide), bPar_readSteps_0, r1, zci, bPar_readDriver_59]
        have fI5 : CF p I J5 := CF_t fI2 r2
        have fR5 : CF p R R5 := CF_t fR2 r3
        have fL5 : CF p L L5 := CF_t fL2 r4
        cases e4 : ySteps n t 6 Q1 K1 with
        | error y =>
          rw [e4] at r5
          simp only at r5 ⊢
          rw [if_pos (by decide)]
          exact ⟨false, _, _, _, rfl, fI5, fR5, fL5, rfl, r5⟩
        | ok y =>
          obtain ⟨Q2, K2⟩ := y
          rw [e4] at r5
          simp only at r5 ⊢
          obtain ⟨z1, z2', z3, z4, z5, z6⟩ := ySteps_v 6 Q1 K1 y3 (by omega) e4 y1 y2
          have f1 : Q2.1.2.1 = Q.1.2.1 := by rw [z6]; exact e6
          have f2 : Q2.1.1 = Q.1.1 := by rw [z6]; exact e8
          obtain ⟨w1, w2, w3, w4, w5, w6⟩ := id r5
          have kk := z3.1
          rw [if_neg (by decide), w5.1]
          by_cases c6 : K2.1 = 3
          · rw [c6, if_pos rfl, w3, zdpp, zrv, zob (xp_o a2), zrv, zob (xp_o a2), w6.1.2.1, nI_add, bPar_readDriver_91]
            have hfin : RC n t Q2.1.1 (Q2.1.2.1 + 1) (q_nv Q2 (Q2.1.2.1 + 1)) p R5 (z2 J5 p 1 (nI (Q2.1.2.1 + 1))) L5 := by
              rw [f2, f1]
              refine RC_cnt (Q := Q2) a2 rfl rfl w6 ⟨?_, ?_, ?_⟩
              · rw [z2a, if_neg (by omega)]; exact w6.1.1
              · rw [z2_at]
              · rw [z2a, if_neg (by omega)]; exact w6.1.2.2
            refine ⟨true, _, _, _, rfl, CF_z fI5 (by omega), fR5, fL5, fun _ => ⟨rfl, CS_i r5 (z2_ne (by omega)) (z2_ne (by omega)) (z2_ne (by omega)) rfl rfl hfin⟩, fun z => absurd rfl z⟩
          · rw [if_neg (fun z => c6 ((nI_eq (by omega) (by omega)).mp z)), Par_fail_e (d := d + 4) w5, zci, bPar_readDriver_77, zb0]
            exact ⟨false, _, _, _, rfl, CF_z fI5 (by omega), fR5, fL5, fun z => absurd z c6, fun _ => ⟨rfl, FSd_i z3 hn ⟨1, by decide, by decide, rfl⟩⟩⟩
  · simp only [if_neg c0]
    rw [if_neg (nI_nlt (by omega) (by omega)), Par_fail_e (d := d + 4) a5, zci, bPar_readDriver_19, zb0]
    exact ⟨false, _, _, _, rfl, CF_z CF_r (by omega), CF_r, CF_r, rfl, FSd_i hK hn ⟨4, by decide, by decide, rfl⟩⟩
end CREAD5
