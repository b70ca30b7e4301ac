-- THE COMPONENT READS: all lines
section CPARSE
variable {ρ : Nat × (Nat → Int32)} {d : Nat} {c : Nat × Nat} {R R' : Nat → Nat → Option Nat} {I J : Nat → Nat → Int32} {L L' : Nat → Nat → Int64} {n : Nat} {t : Nat → Nat} {p m u : Nat} {Q : QT} {K : Tk} {e : Nat}
theorem Pla_clear_e (hp : isP p) : ∃ J, EV ρ (d + 2) 125 0 [.ref p] [] (mk c R I L) = some ([], mk c R J L) ∧ RC n t 0 0 Q0 p R J L ∧ ∀ q, ¬ (p ≤ q ∧ q ≤ p + 37) → J q = I q := by
  obtain ⟨K1, a1, v1, f1⟩ := Arr_fill_e (ρ := ρ) (d := d) (c := c) (R := R) (I := z2 (z2 (z2 I p 0 (nI 0)) p 1 (nI 0)) p 2 (nI 0)) (L := L) (xp_a4 hp) (by decide) (-1)
  obtain ⟨K2, a2, v2, f2⟩ := Arr_fill_e (ρ := ρ) (d := d) (c := c) (R := R) (I := K1) (L := L) (xp_a5 hp) (by decide) (nI 0)
  obtain ⟨K3, a3, v3, f3⟩ := Arr_fill_e (ρ := ρ) (d := d) (c := c) (R := R) (I := K2) (L := L) (xp_a6 hp) (by decide) (nI 0)
  obtain ⟨K4, a4, v4, f4⟩ := Arr_fill_e (ρ := ρ) (d := d) (c := c) (R := R) (I := K3) (L := L) (xp_a8 hp) (by decide) (nI 0)
  obtain ⟨K5, a5, v5, f5⟩ := Arr_fill_e (ρ := ρ) (d := d) (c := c) (R := R) (I := K4) (L := L) (xp_a9 hp) (by decide) (nI 0)
  obtain ⟨K6, a6, v6, f6⟩ := Arr_fill_e (ρ := ρ) (d := d) (c := c) (R := R) (I := K5) (L := L) (xp_a10 hp) (by decide) (nI 0)
  obtain ⟨K7, a7, v7, f7⟩ := Arr_fill_e (ρ := ρ) (d := d) (c := c) (R := R) (I := K6) (L := L) (xp_a13 hp) (by decide) (nI 0)
  obtain ⟨K8, a8, v8, f8⟩ := Arr_fill_e (ρ := ρ) (d := d) (c := c) (R := R) (I := K7) (L := L) (xp_a14 hp) (by decide) (nI 0)
  obtain ⟨K9, a9, v9, f9⟩ := Arr_fill_e (ρ := ρ) (d := d) (c := c) (R := R) (I := K8) (L := L) (xp_a37 hp) (by decide) (nI 0)
  refine ⟨K9, ?_, ⟨⟨?_, ?_, ?_⟩, ⟨fun x hx => absurd hx (Nat.not_lt_zero _), fun x hx => absurd hx (Nat.not_lt_zero _), fun x hx => absurd hx (Nat.not_lt_zero _)⟩, fun x hx => absurd hx (Nat.not_lt_zero _), fun x hx => ⟨?_, ?_⟩, fun x hx => ⟨?_, fun k z hz => (by cases hz), ?_⟩, fun v hv => ⟨?_, fun i w hi => (by cases hi)⟩, fun v hv => ⟨?_, fun i w hi => (by cases hi), ?_, ?_⟩, fun x hx => v9 x hx⟩, fun q hq => ?_⟩
  · rw [bPla_clear_0, zob (xp_o hp), bPla_clear_5, zob (xp_o hp), bPla_clear_10, zob (xp_o hp), bPla_clear_15, zob (xp_o hp), xp_F6 hp, zrs, a1, zcv, bPla_clear_23, zob (xp_o hp), xp_F7 hp, zrs, a2, zcv, bPla_clear_31, zob (xp_o hp), xp_F8 hp, zrs, a3, zcv, bPla_clear_39, zob (xp_o hp), xp_F10 hp, zrs, a4, zcv, bPla_clear_47, zob (xp_o hp), xp_F11 hp, zrs, a5, zcv, bPla_clear_55, zob (xp_o hp), xp_F12 hp, zrs, a6, zcv, bPla_clear_63, zob (xp_o hp), xp_F15 hp, zrs, a7, zcv, bPla_clear_71, zob (xp_o hp), xp_F16 hp, zrs, a8, zcv, bPla_clear_79, zob (xp_o hp), xp_F19 hp, zrs, a9, zcv, bPla_clear_87]
  · rw [f9 _ (by omega), f8 _ (by omega), f7 _ (by omega), f6 _ (by omega), f5 _ (by omega), f4 _ (by omega), f3 _ (by omega), f2 _ (by omega), f1 _ (by omega), z2a, if_neg (by omega), z2a, if_neg (by omega), z2_at]; rfl
  · rw [f9 _ (by omega), f8 _ (by omega), f7 _ (by omega), f6 _ (by omega), f5 _ (by omega), f4 _ (by omega), f3 _ (by omega), f2 _ (by omega), f1 _ (by omega), z2a, if_neg (by omega), z2_at]; rfl
  · rw [f9 _ (by omega), f8 _ (by omega), f7 _ (by omega), f6 _ (by omega), f5 _ (by omega), f4 _ (by omega), f3 _ (by omega), f2 _ (by omega), f1 _ (by omega), z2_at]; rfl
  · rw [f9 _ (by omega), f8 _ (by omega), f7 _ (by omega), f6 _ (by omega), f5 _ (by omega), f4 _ (by omega), f3 _ (by omega), f2 _ (by omega)]; exact v1 x hx
  · rw [f9 _ (by omega), f8 _ (by omega), f7 _ (by omega), f6 _ (by omega), f5 _ (by omega), f4 _ (by omega), f3 _ (by omega)]; exact v2 x hx
  · rw [f9 _ (by omega), f8 _ (by omega), f7 _ (by omega), f6 _ (by omega), f5 _ (by omega), f4 _ (by omega)]; exact v3 x hx
  · rw [f9 _ (by omega), f8 _ (by omega), f7 _ (by omega), f6 _ (by omega), f5 _ (by omega)]; exact v4 x hx
  · rw [f9 _ (by omega), f8 _ (by omega), f7 _ (by omega), f6 _ (by omega)]; exact v5 v hv
  · rw [f9 _ (by omega), f8 _ (by omega), f7 _ (by omega)]; exact v6 v hv
  · rw [f9 _ (by omega), f8 _ (by omega)]; exact v7 v hv
  · rw [f9 _ (by omega)]; exact v8 v hv
  · rw [f9 _ (by omega), f8 _ (by omega), f7 _ (by omega), f6 _ (by omega), f5 _ (by omega), f4 _ (by omega), f3 _ (by omega), f2 _ (by omega), f1 _ (by omega), z2_ne (by omega), z2_ne (by omega), z2_ne (by omega)]
theorem ps_f28 (h : FSd e I) (v : Int32) : EV ρ (d + 7) 135 28 [.ref 3, zU, .int v, zU] [] (mk c R I L) = some ([.int (nI e)], mk c R I L) := by
  have h0 : ¬ I 3 7 = 0 := by rw [h.1]; exact nI_ne0 (by have := h.2.1; omega) (by have := h.2.2; omega)
  rw [bPar_parse_28, if_neg h0, if_neg h0, bPar_parse_114, h.1]
  by_cases c1 : nI 600 < v
  · rw [if_pos c1]
  · rw [if_neg c1]
/-- the lines -/
theorem ps_loop : ∀ (f : Nat) (Q : QT) (K : Tk) (R : Nat → Nat → Option Nat) (I : Nat → Nat → Int32) (L : Nat → Nat → Int64), TkI n t K → QN Q → QB Q → QE Q → Q.1.1 + Q.1.2.1 + f = 21 → CS n t Q.1.1 Q.1.2.1 Q p K R I L →
    ∃ R' J L', CF p I J ∧ CF p R R' ∧ CF p L L' ∧ (match yMain n t f Q K with
      | .error e => EV ρ (d + 7) 135 28 [.ref 3, zU, .int (nI (Q.1.1 + Q.1.2.1)), zU] [] (mk c R I L) = some ([.int (nI e)], mk c R' J L')
      | .ok Q' => EV ρ (d + 7) 135 28 [.ref 3, zU, .int (nI (Q.1.1 + Q.1.2.1)), zU] [] (mk c R I L) = zcV (EV ρ (d + 6) 152 0 [.ref 3, zU, zU] [] (mk c R' J L')) (fun s1 => EV ρ (d + 6 + 1) 135 114 [.ref 3, zU, zU, zU] [] s1) ∧ ∃ K', CS n t Q'.1.1 Q'.1.2.1 Q' p K' R' J L') := by
  intro f
  induction f with
  | zero =>
    intro Q K R I L hK hN hB hE hf h
    have := hN.1
    have := hN.2.1
    omega
  | succ f ih =>
    intro Q K R I L hK hN hB hE hf h
    obtain ⟨a1, a2, a3, a4, a5, a6⟩ := id h
    have hn := a1.2.1
    have hk5 := hK.1
    have hpg := isP_g a2
    have h6 : ¬ nI 600 < nI (Q.1.1 + Q.1.2.1) := nI_nlt (by omega) (by decide)
    unfold yMain
    by_cases c0 : K.1 = 0
    · simp only [if_pos c0]
      refine ⟨R, I, L, CF_r, CF_r, CF_r, ?_, K, h⟩
      rw [bPar_parse_28, if_neg h6, a4, if_pos (by decide), a5.1, c0, if_pos (by decide), if_pos (by decide)]
    · simp only [if_neg c0]
      have hline : ∃ (o : Bool) (R1 : Nat → Nat → Option Nat) (J1 : Nat → Nat → Int32) (L1 : Nat → Nat → Int64), CF p I J1 ∧ CF p R R1 ∧ CF p L L1 ∧ EV ρ (d + 7) 135 28 [.ref 3, zU, .int (nI (Q.1.1 + Q.1.2.1)), zU] [] (mk c R I L) = EV ρ (d + 7) 135 88 [.ref 3, zU, .int (nI (Q.1.1 + Q.1.2.1)), zU] [.int (bo o)] (mk c R1 J1 L1) ∧ (match yLine n t Q K with
          | .ok (Q', K') => (K'.1 = 3 → o = true ∧ CS n t Q'.1.1 Q'.1.2.1 Q' p K' R1 J1 L1) ∧ (K'.1 ≠ 3 → o = false ∧ FSd (er K' 1) J1)
          | .error e => o = false ∧ FSd e J1) := by
        rw [bPar_parse_28, if_neg h6, a4, if_pos (by decide), a5.1, if_neg (nI_ne0 (by omega) (by omega)), C_key a5]
        unfold yLine
        by_cases c1 : kW 0 K = true
        · simp only [if_pos c1]
          obtain ⟨o, R1, J1, L1, b1, b2, b3, b4, b5⟩ := Par_device_e (ρ := ρ) (d := d) (c := c) hK hN hB hE h
          rw [if_pos ((C_kw a5 (i := 0) (by decide)).mpr c1), b1, zci, bPar_parse_63]
          exact ⟨o, R1, J1, L1, b2, b3, b4, rfl, b5⟩
        · simp only [if_neg c1]
          rw [if_neg (fun z => c1 ((C_kw a5 (i := 0) (by decide)).mp z)), C_key a5]
          by_cases c2 : kW 1 K = true
          · simp only [if_pos c2]
            obtain ⟨o, R1, J1, L1, b1, b2, b3, b4, b5⟩ := Par_driver_e (ρ := ρ) (d := d) (c := c) hK hN hB hE h
            rw [if_pos ((C_kw a5 (i := 1) (by decide)).mpr c2), b1, zci, bPar_parse_80]
            exact ⟨o, R1, J1, L1, b2, b3, b4, rfl, b5⟩
          · simp only [if_neg c2]
            rw [if_neg (fun z => c2 ((C_kw a5 (i := 1) (by decide)).mp z)), Par_fail_e (d := d + 5) a5, zci]
            exact ⟨false, _, _, _, CF_z CF_r (by omega), CF_r, CF_r, rfl, rfl, FSd_i hK hn ⟨1, by decide, by decide, rfl⟩⟩
      obtain ⟨o, R1, J1, L1, g1, g2, g3, g4, g5⟩ := hline
      rw [g4]
      cases es : yLine n t Q K with
      | error y =>
        rw [es] at g5
        simp only at g5 ⊢
        obtain ⟨g5, g6⟩ := g5
        refine ⟨R1, J1, L1, g1, g2, g3, ?_⟩
        rw [bPar_parse_88, g5, if_pos (by decide), bPar_parse_97, ps_f28 g6]
      | ok y =>
        obtain ⟨Q1, K1⟩ := y
        rw [es] at g5
        simp only at g5 ⊢
        obtain ⟨y1, y2, y3, y4, y5⟩ := yLine_v hK es hN hB hE
        by_cases c3 : K1.1 = 3
        · simp only [if_pos c3]
          obtain ⟨g5, g6⟩ := g5.1 c3
          obtain ⟨R2, J2, L2, b1, b2, b3, b4, b5⟩ := CS_step (ρ := ρ) (d := d + 2) (c := c) y4 g6
          obtain ⟨R3, J3, L3, q1, q2, q3, q4⟩ := ih Q1 (nxK n t K1) R2 J2 L2 (nxK_i y4) y1 y2 y3 (by omega) b2
          rw [bPar_parse_88, g5, if_neg (by decide), b1, zcv, bPar_parse_97, nI_add, ← y5]
          exact ⟨R3, J3, L3, CF_t (CF_t g1 (CF_3 b3)) q1, CF_t (CF_t g2 (CF_3 b4)) q2, CF_t (CF_t g3 (CF_3 b5)) q3, q4⟩
        · simp only [if_neg c3]
          obtain ⟨g5, g6⟩ := g5.2 c3
          refine ⟨R1, J1, L1, g1, g2, g3, ?_⟩
          rw [bPar_parse_88, g5, if_pos (by decide), bPar_parse_97, ps_f28 g6]
/-- the text is read into plan p -/
theorem Par_parse_l (hp : isP p) (hT : TC n t I) : ∃ R' J L', CF p I J ∧ CF p R R' ∧ CF p L L' ∧ (match yBoard n t with
      | .error e => EV ρ (d + 7) 135 0 [.ref 3, .ref p, zU, zU] [] (mk c R I L) = some ([.int (nI e)], mk c R' J L')
      | .ok Q' => EV ρ (d + 7) 135 0 [.ref 3, .ref p, zU, zU] [] (mk c R I L) = zcV (EV ρ (d + 6) 152 0 [.ref 3, zU, zU] [] (mk c R' J L')) (fun s1 => EV ρ (d + 6 + 1) 135 114 [.ref 3, zU, zU, zU] [] s1) ∧ ∃ K', CS n t Q'.1.1 Q'.1.2.1 Q' p K' R' J L') := by
  have hpg := isP_g hp
  obtain ⟨J1, b1, b2, b3⟩ := Pla_clear_e (ρ := ρ) (d := d + 4) (c := c) (R := z2 R 3 1 (some p)) (I := I) (L := L) (n := n) (t := t) hp
  rw [bPar_parse_0, bPar_parse_5, z2_at, zrs, zob (xp_o hp), b1, zcv, bPar_parse_12, bPar_parse_17, bPar_parse_22]
  have hT2 : TC n t (z2 (z2 J1 3 7 (nI 0)) 3 4 (nI 0)) := TC_z2 (by decide) (TC_z2 (by decide) (TC_to hT (b3 _ (by omega)) (b3 _ (by omega))))
  obtain ⟨R2, J2, L2, s1, s2, s3, s4, s5⟩ := Par_step_e (ρ := ρ) (d := d + 2) (c := c) (R := z2 R 3 1 (some p)) (L := L) hT2 (e := 0) (Nat.zero_le _) (by rw [z2_at])
  rw [s1, zcv, bPar_parse_26]
  have hC : CS n t Q0.1.1 Q0.1.2.1 Q0 p (tok n t 0) R2 J2 L2 := by
    refine ⟨TC_to hT2 (FS3_c s3 (by decide)) (FS3_c s3 (by decide)), hp, ?_, ?_, s2, RC_to hp b2 (fun q hq => ?_) (fun q hq => ?_) (fun q hq => ?_)⟩
    · rw [s4 _ _ (by omega), z2_at]
    · rw [s3 _ _ (by omega), z2a, if_neg (by omega), z2_at]
    · rw [FS3_c s3 hq, z2_ne hq, z2_ne hq]
    · rw [FS3_c s4 hq]
    · rw [FS3_c s5 hq]
  obtain ⟨R3, J3, L3, q1, q2, q3, q4⟩ := ps_loop (ρ := ρ) (d := d) (c := c) 21 Q0 (tok n t 0) R2 J2 L2 (tok_i n t (Nat.zero_le _)) Q0_v.1 Q0_v.2.1 Q0_v.2.2 rfl hC
  refine ⟨R3, J3, L3, CF_t (CF_t (CF_z (CF_z (fun q _ y2 => b3 q y2) (by omega)) (by omega)) (CF_3 s3)) q1, CF_t (CF_t (CF_z CF_r (by omega)) (CF_3 s4)) q2, CF_t (CF_3 s5) q3, ?_⟩
  exact q4
end CPARSE
