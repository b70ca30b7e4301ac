-- THE COMPONENT READS: steps
theorem znl {q : Nat} {f : Option Nat → Rs} : znul (zr (some q)) f = f (some q) := rfl
section CREAD4
variable {ρ : Nat × (Nat → Int32)} {d : Nat} {c : Nat × Nat} {R R' : Nat → Nat → Option Nat} {I J : Nat → Nat → Int32} {L L' : Nat → Nat → Int64} {n : Nat} {t : Nat → Nat} {p m u : Nat} {Q : QT} {K : Tk} {e : Nat}
theorem C_stw (h : TkC K R I L) : (stw K = none ∧ (R 3 6 = none ∨ ∃ i, i < 5 ∧ R 3 6 = some (1000 + i))) ∨ ∃ z, z ≤ 4 ∧ stw K = some z ∧ R 3 6 = some (1005 + z) := by
  rw [h.2.2.2.1]
  unfold stw
  by_cases c1 : K.1 = 1
  · rw [if_pos c1, if_pos c1]
    cases e1 : kwi K.2.2.2 with
    | none => exact .inl ⟨rfl, .inl rfl⟩
    | some i =>
      have hi := kwi_lt e1
      by_cases c2 : 5 ≤ i
      · refine .inr ⟨i - 5, by omega, ?_, ?_⟩
        · show (if 5 ≤ i then some (i - 5) else none) = _; rw [if_pos c2]
        · show some (1000 + i) = _; congr 1; omega
      · refine .inl ⟨?_, .inr ⟨i, by omega, rfl⟩⟩
        show (if 5 ≤ i then some (i - 5) else none) = _; rw [if_neg c2]
  · rw [if_neg c1, if_neg c1]
    exact .inl ⟨rfl, .inl rfl⟩
theorem rs_2n (h : TkC K R I L) (hs : stw K = none) (v w : Int32) : EV ρ (d + 5) 142 2 [.ref 3, .int v, .int w, zU, zU, zU] [] (mk c R I L) = some ([.int (nI 1)], mk c R I L) := by
  rw [bPar_readSteps_2]
  rcases C_stw h with ⟨_, e1 | ⟨i, hi, e1⟩⟩ | ⟨z, hz, e1, _⟩
  · rw [e1]; rfl
  · have hb : (Nat.ble 1000 (1000 + i) && Nat.ble (1000 + i) 1009) = true := by rw [Bool.and_eq_true, Nat.ble_eq, Nat.ble_eq]; omega
    rw [e1, znl, if_neg (fun y => by cases y), zrs, hb, cond_true, Key_step_e (d := d + 3) i (by omega), zci, bPar_readSteps_16, decide_eq_false (by omega), if_pos (by decide)]
  · rw [hs] at e1; cases e1
theorem rs_2s {z : Nat} (hz : z ≤ 4) (h : R 3 6 = some (1005 + z)) (v w : Int32) : EV ρ (d + 5) 142 2 [.ref 3, .int v, .int w, zU, zU, zU] [] (mk c R I L) = EV ρ (d + 5) 142 16 [.ref 3, .int v, .int w, zU, zU, zU] [.int (nI 1)] (mk c R I L) := by
  have hb : (Nat.ble 1000 (1005 + z) && Nat.ble (1005 + z) 1009) = true := by rw [Bool.and_eq_true, Nat.ble_eq, Nat.ble_eq]; omega
  rw [bPar_readSteps_2, h, znl, if_neg (fun y => by cases y), zrs, hb, cond_true, show 1005 + z = 1000 + (5 + z) from by omega, Key_step_e (d := d + 3) (5 + z) (by omega), zci, decide_eq_true (by omega)]
  rfl
/-- the value of a step -/
theorem rs_50 {z : Nat} (hz : z ≤ 3) (v w : Int32) (hK : TkI n t K) (hN : QN Q) (h : CS n t m u Q p K R I L) : ∃ J L', EV ρ (d + 5) 142 50 [.ref 3, .int v, .int w, .ref (1005 + z), zU, zU] [] (mk c R I L) = EV ρ (d + 5) 142 88 [.ref 3, .int v, .int w, .ref (1005 + z), zU, zU] [.int (match yVal n t z Q K with
      | .ok (_, x, _) => nI x
      | .error _ => -1)] (mk c R J L') ∧ CF p I J ∧ CF p L L' ∧ (match yVal n t z Q K with
      | .ok (Q', _, K') => CS n t m u Q' p K R J L' ∧ K' = nxK n t K
      | .error e => FSd e J) := by
  have hn := h.1.2.1
  have hb : (Nat.ble 1000 (1005 + z) && Nat.ble (1005 + z) 1009) = true := by rw [Bool.and_eq_true, Nat.ble_eq, Nat.ble_eq]; omega
  rw [bPar_readSteps_50, hb, cond_true, cond_true]
  unfold yVal
  have hnum : z ≤ 1 → ∃ J L', zcI (EV ρ (d + 4) 143 0 [.ref 3, .ref (1005 + z), zU, zU] [] (mk c R I L)) (fun x2 s1 => EV ρ (d + 4 + 1) 142 81 [.ref 3, .int v, .int w, .ref (1005 + z), zU, zU] [.int x2] s1) = EV ρ (d + 5) 142 88 [.ref 3, .int v, .int w, .ref (1005 + z), zU, zU] [.int (match (if K.1 = 2 then (if (z = 0 → 1 ≤ nmb K) ∧ (z = 1 → nmb K < 16) then .ok (Q, nmb K, nxK n t K) else .error (er K 2)) else .error (er K 1) : Except Nat (QT × Nat × Tk)) with
      | .ok (_, x, _) => nI x
      | .error _ => -1)] (mk c R J L') ∧ CF p I J ∧ CF p L L' ∧ (match (if K.1 = 2 then (if (z = 0 → 1 ≤ nmb K) ∧ (z = 1 → nmb K < 16) then .ok (Q, nmb K, nxK n t K) else .error (er K 2)) else .error (er K 1) : Except Nat (QT × Nat × Tk)) with
      | .ok (Q', _, K') => CS n t m u Q' p K R J L' ∧ K' = nxK n t K
      | .error e => FSd e J) := fun z1 => by
    rw [Par_number_e (d := d + 2) z1 hK h, zci, bPar_readSteps_81]
    by_cases c1 : K.1 = 2
    · simp only [if_pos c1]
      by_cases c2 : (z = 0 → 1 ≤ nmb K) ∧ (z = 1 → nmb K < 16)
      · simp only [if_pos c2]
        exact ⟨I, L, rfl, CF_r, CF_r, h, trivial⟩
      · simp only [if_neg c2]
        exact ⟨_, L, rfl, CF_z CF_r (by omega), CF_r, FSd_i hK hn ⟨2, by decide, by decide, rfl⟩⟩
    · simp only [if_neg c1]
      exact ⟨_, L, rfl, CF_z CF_r (by omega), CF_r, FSd_i hK hn ⟨1, by decide, by decide, rfl⟩⟩
  by_cases z0 : z ≤ 1
  · obtain ⟨J, L', g1, g2, g3, g4⟩ := hnum z0
    simp only [if_neg (show ¬ z = 4 from by omega), if_pos z0]
    refine ⟨J, L', ?_, g2, g3, g4⟩
    by_cases z1 : z = 0
    · rw [if_pos (by rw [z1])]; exact g1
    · rw [if_neg (fun y => z1 (by have := Option.some.inj y; omega)), if_pos (by rw [show z = 1 from by omega])]; exact g1
  · simp only [if_neg (show ¬ z = 4 from by omega), if_neg z0]
    obtain ⟨J2, L2, s1, s2, s3, s4⟩ := Par_supply_e (ρ := ρ) (d := d + 2) (c := c) hK hN h
    rw [if_neg (fun y => z0 (by have := Option.some.inj y; omega)), if_neg (fun y => z0 (by have := Option.some.inj y; omega)), s1, zci]
    cases es : ySup Q K with
    | error y =>
      rw [es] at s4
      simp only at s4 ⊢
      exact ⟨J2, L2, rfl, s2, s3, by rw [s4]; exact FSd_i hK hn (ySup_er es)⟩
    | ok y =>
      obtain ⟨Q1, s⟩ := y
      rw [es] at s4
      simp only at s4 ⊢
      exact ⟨J2, L2, rfl, s2, s3, s4.1, trivial⟩
/-- the steps -/
theorem Par_steps_l : ∀ (f : Nat) (Q : QT) (K : Tk) (R : Nat → Nat → Option Nat) (I : Nat → Nat → Int32) (L : Nat → Nat → Int64), TkI n t K → QN Q → QB Q → (Q.2.2.2.1 Q.1.2.1).length + f = 6 → Q.1.2.1 < 8 → CS n t m u Q p K R I L → ∃ R' J L', EV ρ (d + 5) 142 2 [.ref 3, .int (nI Q.1.2.1), .int (nI (Q.2.2.2.1 Q.1.2.1).length), zU, zU, zU] [] (mk c R I L) = some ([.int (match ySteps n t f Q K with
      | .ok _ => nI 1
      | .error _ => nI 0)], mk c R' J L') ∧ CF p I J ∧ CF p R R' ∧ CF p L L' ∧ (match ySteps n t f Q K with
      | .ok (Q', K') => CS n t m u Q' p K' R' J L'
      | .error e => FSd e J) := by
  intro f
  induction f with
  | zero =>
    intro Q K R I L hK hN hB hf hd h
    obtain ⟨a1, a2, a3, a4, a5, a6⟩ := id h
    have hn := a1.2.1
    unfold ySteps
    rcases C_stw a5 with ⟨e1, _⟩ | ⟨z, hz, e1, e2⟩
    · rw [e1, rs_2n a5 e1]
      exact ⟨_, _, _, rfl, CF_r, CF_r, CF_r, h⟩
    · rw [e1, rs_2s hz e2, bPar_readSteps_16, if_neg (by decide), if_neg (nI_nlt (by omega) (by omega)), Par_fail_e (d := d + 3) a5, zci, bPar_readSteps_30, zb0]
      exact ⟨_, _, _, rfl, CF_z CF_r (by omega), CF_r, CF_r, FSd_i hK hn ⟨4, by decide, by decide, rfl⟩⟩
  | succ f ih =>
    intro Q K R I L hK hN hB hf hd h
    obtain ⟨a1, a2, a3, a4, a5, a6⟩ := id h
    have hn := a1.2.1
    have hpg := isP_g a2
    have k1 := nxK_i hK
    rw [ySteps_s]
    rcases C_stw a5 with ⟨e1, _⟩ | ⟨z, hz, e1, e2⟩
    · rw [e1, rs_2n a5 e1]
      exact ⟨_, _, _, rfl, CF_r, CF_r, CF_r, h⟩
    have hb : (Nat.ble 1000 (1005 + z) && Nat.ble (1005 + z) 1009) = true := by rw [Bool.and_eq_true, Nat.ble_eq, Nat.ble_eq]; omega
    rw [e1, rs_2s hz e2, bPar_readSteps_16, if_neg (by decide), if_pos (nI_lt (by omega) (by decide)), e2, zrs, hb, cond_true]
    simp only
    have hgo : ∀ (Q1 : QT) (x : Nat) (K0 : Tk) (R1 : Nat → Nat → Option Nat) (J1 : Nat → Nat → Int32) (L1 : Nat → Nat → Int64), TkI n t K0 → QN Q1 → QB Q1 → ((z, x).1 ≤ 4 ∧ ((z, x).1 = 1 → (z, x).2 < 16) ∧ ((z, x).1 = 2 → (z, x).2 < Q1.1.2.2) ∧ ((z, x).1 = 3 → (z, x).2 < Q1.1.2.2) ∧ (z, x).2 ≤ 99) → Q1.1.2.1 = Q.1.2.1 → Q1.2.2.2.1 = Q.2.2.2.1 → CS n t m u Q1 p K0 R1 J1 L1 → CF p I J1 → CF p R R1 → CF p L L1 →
        ∃ R' J L', zcV (EV ρ (d + 4) 131 0 [.ref p, .int (nI Q.1.2.1), .ref (1005 + z), .int (nI x), zU] [] (mk c R1 J1 L1)) (fun s2 => EV ρ (d + 4 + 1) 142 109 [.ref 3, .int (nI Q.1.2.1), .int (nI (Q.2.2.2.1 Q.1.2.1).length), zU, zU, zU] [] s2) = some ([.int (match ySteps n t f (ySp Q1 (z, x)) (nxK n t K0) with
          | .ok _ => nI 1
          | .error _ => nI 0)], mk c R' J L') ∧ CF p I J ∧ CF p R R' ∧ CF p L L' ∧ (match ySteps n t f (ySp Q1 (z, x)) (nxK n t K0) with
          | .ok (Q', K') => CS n t m u Q' p K' R' J L'
          | .error e => FSd e J) := by
      intro Q1 x K0 R1 J1 L1 hK0 hN1 hB1 hzx e3 e4 h1 f1 f2 f3
      have hl1 : (Q1.2.2.2.1 Q1.1.2.1).length < 6 := by rw [e3, e4]; omega
      obtain ⟨J2, s1, s2, s3⟩ := Pla_step_e (ρ := ρ) (d := d + 3) (c := c) (z := z) (x := x) hz a2 (by omega) hB1 hl1 h1.2.2.2.2.2
      rw [← e3, s1, zcv, bPar_readSteps_109]
      have hM : CS n t m u (ySp Q1 (z, x)) p K0 _ J2 L1 := CS_i h1 (s3 _ (by omega) (by omega) (by omega) (by omega)) (s3 _ (by omega) (by omega) (by omega) (by omega)) (s3 _ (by omega) (by omega) (by omega) (by omega)) (z2_ne (by omega)) rfl s2
      obtain ⟨R3, J3, L3, q1, q2, q3, q4, q5⟩ := CS_step (ρ := ρ) (d := d) (c := c) hK0 hM
      have hB' := ySp_v (Q := Q1) (z := (z, x)) hl1 hzx hB1
      obtain ⟨R4, J4, L4, p1, p2, p3, p4, p5⟩ := ih (ySp Q1 (z, x)) (nxK n t K0) R3 J3 L3 (nxK_i hK0) hN1 hB' (by show (va_up Q1.2.2.2.1 Q1.1.2.1 (Q1.2.2.2.1 Q1.1.2.1 ++ [_]) Q1.1.2.1).length + f = 6; rw [va_up_self, List.length_append, e3, e4]; show _ + 1 + f = 6; omega) (by show Q1.1.2.1 < 8; omega) q2
      have p1' : EV ρ (d + 5) 142 2 [.ref 3, .int (nI Q1.1.2.1), .int (nI (va_up Q1.2.2.2.1 Q1.1.2.1 (Q1.2.2.2.1 Q1.1.2.1 ++ [(z, x)]) Q1.1.2.1).length), zU, zU, zU] [] (mk c R3 J3 L3) = _ := p1
      rw [va_up_self, List.length_append] at p1'
      have p1'' : EV ρ (d + 5) 142 2 [.ref 3, .int (nI Q1.1.2.1), .int (nI ((Q1.2.2.2.1 Q1.1.2.1).length + 1)), zU, zU, zU] [] (mk c R3 J3 L3) = _ := p1'
      rw [q1, zcv, bPar_readSteps_113, ← e4, nI_add, p1'']
      refine ⟨R4, J4, L4, rfl, CF_t (CF_t (CF_t f1 (fun q y1 y2 => s3 q (by omega) (by omega) (by omega) (by omega))) (CF_3 q3)) p2, CF_t (CF_t (CF_z f2 (by omega)) (CF_3 q4)) p3, CF_t (CF_t f3 (CF_3 q5)) p4, p5⟩
    by_cases z4 : z = 4
    · subst z4
      have hy : yVal n t 4 Q (nxK n t K) = .ok (Q, 0, nxK n t K) := by unfold yVal; rw [if_pos rfl]
      rw [if_pos rfl, a3, zrs, zob (xp_o a2), hy]
      exact hgo Q 0 K R I L hK hN hB ⟨by decide, fun y => (by cases y), fun y => (by cases y), fun y => (by cases y), by decide⟩ rfl rfl h CF_r CF_r CF_r
    · rw [if_neg (fun y => z4 (by have := Option.some.inj y; omega))]
      obtain ⟨R1, J1, L1, b1, b2, b3, b4, b5⟩ := CS_step (ρ := ρ) (d := d) (c := c) hK h
      obtain ⟨J2, L2, s1, s2, s3, s4⟩ := rs_50 (ρ := ρ) (d := d) (c := c) (z := z) (by omega) (nI Q.1.2.1) (nI (Q.2.2.2.1 Q.1.2.1).length) k1 hN b2
      rw [b1, zcv, s1, bPar_readSteps_88]
      cases es : yVal n t z Q (nxK n t K) with
      | error y =>
        rw [es] at s4
        simp only at s4 ⊢
        rw [if_pos trivial]
        exact ⟨_, _, _, rfl, CF_t (CF_3 b3) s2, CF_3 b4, CF_t (CF_3 b5) s3, s4⟩
      | ok y =>
        obtain ⟨Q1, x, K1⟩ := y
        rw [es] at s4
        simp only at s4 ⊢
        obtain ⟨y1, y2, y3, y4, y5, y6, y7, y8, y9⟩ := yVal_v hz k1 es hN hB
        rw [if_neg (nI_m1 (by omega)), s4.1.2.2.1, zrs, zob (xp_o a2), s4.2]
        exact hgo Q1 x (nxK n t K) R1 J2 L2 k1 y1 y2 ⟨hz, y4, y5, y6, y7⟩ (by rw [y9]) (by rw [y9]) s4.1 (CF_t (CF_3 b3) s2) (CF_3 b4) (CF_t (CF_3 b5) s3)
end CREAD4
