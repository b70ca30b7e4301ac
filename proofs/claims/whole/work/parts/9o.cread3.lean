-- THE COMPONENT READS: numbers, patterns, steps
section CREAD3
variable {ρ : Nat × (Nat → Int32)} {d : Nat} {c : Nat × Nat} {R R' : Nat → Nat → Option Nat} {I J : Nat → Nat → Int32} {L L' : Nat → Nat → Int64} {n : Nat} {t : Nat → Nat} {p m u : Nat} {Q : QT} {K : Tk} {e : Nat}
theorem rn_loop {r b a : Nat} (h : TC n t I) (h4 : I 3 4 = nI a) (ha : a ≤ n) (hd : ∀ x ∈ slc t b a, isDg x = true) : ∀ (j i : Nat), a - i = j → b ≤ i → i ≤ a → EV ρ (d + 2) 143 23 [.ref 3, .ref r, .int (nI (cd 10 48 (slc t b i))), .int (nI i)] [] (mk c R I L) = EV ρ (d + 2) 143 23 [.ref 3, .ref r, .int (nI (cd 10 48 (slc t b a))), .int (nI a)] [] (mk c R I L) := by
  intro j
  have hn := h.2.1
  induction j with
  | zero =>
    intro i hj hb hi
    rw [show i = a from by omega]
  | succ j ih =>
    intro i hj hb hi
    have hx := isDg_i (hd (t i) (slc_in hb (by omega)))
    rw [bPar_readNumber_23, h4, if_neg (nI_ge (by omega) (by omega)), Tap_at_e h (by omega), zci, bPar_readNumber_43, sb_n (by omega), pk_mul, nI_add, pk_sub (by omega), nI_add]
    have := ih (i + 1) (by omega) (by omega) (by omega)
    rw [show cd 10 48 (slc t b (i + 1)) = cd 10 48 (slc t b i) * 10 + t i - 48 from by rw [slc_s t hb, cd_s]; omega] at this
    exact this
theorem Par_number_e {z : Nat} (hz : z ≤ 1) (hK : TkI n t K) (h : CS n t m u Q p K R I L) : EV ρ (d + 2) 143 0 [.ref 3, .ref (1005 + z), zU, zU] [] (mk c R I L) = some ([.int (if K.1 = 2 then (if (z = 0 → 1 ≤ nmb K) ∧ (z = 1 → nmb K < 16) then nI (nmb K) else -1) else -1)], mk c R (if K.1 = 2 then (if (z = 0 → 1 ≤ nmb K) ∧ (z = 1 → nmb K < 16) then I else z2 I 3 7 (nI (er K 2))) else z2 I 3 7 (nI (er K 1))) L) := by
  obtain ⟨a1, a2, a3, a4, a5, a6⟩ := h
  have hk5 := hK.1
  rw [bPar_readNumber_0, a5.1]
  by_cases c1 : K.1 = 2
  · obtain ⟨w1, w2⟩ := hK.2.2.2.2.2.1 (.inr c1)
    have h99 := nmb_le hK c1
    have hl := rn_loop (ρ := ρ) (d := d) (c := c) (R := R) (L := L) (r := 1005 + z) (b := K.2.1) a1 a5.2.2.1 hK.2.2.1 (by rw [← w1]; exact (hK.2.2.2.2.2.2.1 c1).1) _ K.2.1 rfl (Nat.le_refl _) (by omega)
    rw [slc_0, ← w1] at hl
    rw [if_pos (by rw [c1]), if_pos c1, if_pos c1, a5.2.1, show nI 0 = nI (cd 10 48 []) from rfl, hl, bPar_readNumber_23, a5.2.2.1, if_pos (nI_le (Nat.le_refl _) (by have := hK.2.2.1; have := a1.2.1; omega))]
    have hz2 : z = 0 ∨ z = 1 := by omega
    show (bif _ then _ else _) = _
    rcases hz2 with rfl | rfl
    · rw [show (Nat.ble 1000 (1005 + 0) && Nat.ble (1005 + 0) 1009) = true from rfl, cond_true, if_pos rfl]
      by_cases c2 : 1 ≤ nmb K
      · rw [if_pos (show nI 1 ≤ nI (cd 10 48 K.2.2.2) from nI_le c2 (by unfold nmb at h99; omega)), if_pos ⟨fun _ => c2, fun y => (by cases y)⟩, if_pos ⟨fun _ => c2, fun y => (by cases y)⟩]
        rfl
      · rw [if_neg (show ¬ nI 1 ≤ nI (cd 10 48 K.2.2.2) from nI_ge (by unfold nmb at c2; omega) (by decide)), Par_fail_e a5, zci, bPar_readNumber_80, if_neg (fun y => c2 (y.1 rfl)), if_neg (fun y => c2 (y.1 rfl))]
    · rw [show (Nat.ble 1000 (1005 + 1) && Nat.ble (1005 + 1) 1009) = true from rfl, cond_true, if_neg (by decide)]
      by_cases c2 : nmb K < 16
      · rw [if_pos (show nI (cd 10 48 K.2.2.2) < nI 16 from nI_lt c2 (by decide)), if_pos ⟨fun y => (by cases y), fun _ => c2⟩, if_pos ⟨fun y => (by cases y), fun _ => c2⟩]
        rfl
      · rw [if_neg (show ¬ nI (cd 10 48 K.2.2.2) < nI 16 from nI_nlt (by unfold nmb at c2; omega) (by unfold nmb at h99; omega)), Par_fail_e a5, zci, bPar_readNumber_80, if_neg (fun y => c2 (y.2 rfl)), if_neg (fun y => c2 (y.2 rfl))]
  · rw [if_neg (fun z => c1 ((nI_eq (by omega) (by omega)).mp z)), Par_fail_e a5, zci, bPar_readNumber_13, if_neg c1, if_neg c1]
theorem OnT_k (hK : TkI n t K) (h4 : K.1 = 4) : OnT n t K.2.2.2 (nI (K.2.1 + 1)) (nI K.2.2.1) := by
  obtain ⟨i1, i2, i3, i4, i5⟩ := hK.2.2.2.2.2.2.2 h4
  refine ⟨K.2.1 + 1, rfl, by rw [i5], by rw [i5]; exact hK.2.2.1, fun i z hz => ?_⟩
  have hi := (List.getElem?_eq_some_iff.mp hz).1
  rw [i1, slc_at t _ _ (by omega)] at hz
  cases hz
  rfl
theorem RC_pt {w : List Nat} {a b : Int32} (hp : isP p) (hv : Q.1.2.1 < 8) (hB : QB Q) (hl : (Q.2.2.2.2.2.2.2.1 Q.1.2.1).length < 3) (hw : OnT n t w a b) (h : RC n t m u Q p R I L) : RC n t m u (yPt Q w) p R (z2 (z2 (z2 I 6 (3 * Q.1.2.1 + (Q.2.2.2.2.2.2.2.1 Q.1.2.1).length) a) 7 (3 * Q.1.2.1 + (Q.2.2.2.2.2.2.2.1 Q.1.2.1).length) b) (p + 9) Q.1.2.1 (nI ((Q.2.2.2.2.2.2.2.1 Q.1.2.1).length + 1))) L := by
  have := isP_g hp
  obtain ⟨h1, h2, h3, h4, h5, h6, h7, h8⟩ := h
  refine ⟨?_, h2, ?_, ?_, ?_, fun v hv8 => ?_, ?_, ?_⟩
  · unfold RCc at h1 ⊢; rw [z2_ne (by omega), z2_ne (by omega), z2_ne (by omega)]; exact h1
  · unfold RCi at h3 ⊢; rw [z2_ne (by omega), z2_ne (by omega), z2_ne (by omega), z2_ne (by omega), z2_ne (by omega), z2_ne (by omega)]; exact h3
  · unfold RCp at h4 ⊢; rw [z2_ne (by omega), z2_ne (by omega), z2_ne (by omega), z2_ne (by omega), z2_ne (by omega), z2_ne (by omega)]; exact h4
  · unfold RCe at h5 ⊢; rw [z2_ne (by omega), z2_ne (by omega), z2_ne (by omega), z2_ne (by omega), z2_ne (by omega), z2_ne (by omega), z2_ne (by omega), z2_ne (by omega), z2_ne (by omega)]; exact h5
  · obtain ⟨g1, g2⟩ := h6 v hv8
    show _ = nI (va_up Q.2.2.2.2.2.2.2.1 Q.1.2.1 (Q.2.2.2.2.2.2.2.1 Q.1.2.1 ++ [w]) v).length ∧ ∀ i w', (va_up Q.2.2.2.2.2.2.2.1 Q.1.2.1 (Q.2.2.2.2.2.2.2.1 Q.1.2.1 ++ [w]) v)[i]? = some w' → _
    by_cases ev : v = Q.1.2.1
    · subst ev
      rw [va_up_self, z2_at]
      refine ⟨by rw [List.length_append]; rfl, fun i w' hi => ?_⟩
      rcases ap_at hi with g | ⟨g, g'⟩
      · have hil := (List.getElem?_eq_some_iff.mp g).1
        rw [z2_ne (by omega), z2_ne (by omega), z2a, if_neg (by omega), z2_ne (by omega), z2a, if_neg (by omega), z2_ne (by omega)]
        exact g2 i w' g
      · subst g g'
        rw [z2_ne (by omega), z2_ne (by omega), z2_at, z2_ne (by omega), z2_at]
        exact hw
    · rw [va_up_ne _ _ ev, z2a, if_neg (by omega), z2_ne (by omega), z2_ne (by omega)]
      refine ⟨g1, fun i w' hi => ?_⟩
      have hil := (List.getElem?_eq_some_iff.mp hi).1
      have := (hB.2.2.2.1 v).1
      rw [z2_ne (by omega), z2_ne (by omega), z2a, if_neg (by omega), z2_ne (by omega), z2a, if_neg (by omega), z2_ne (by omega)]
      exact g2 i w' hi
  · unfold RCs at h7 ⊢; rw [z2_ne (by omega), z2_ne (by omega), z2_ne (by omega), z2_ne (by omega), z2_ne (by omega), z2_ne (by omega), z2_ne (by omega), z2_ne (by omega), z2_ne (by omega), z2_ne (by omega), z2_ne (by omega), z2_ne (by omega)]; exact h7
  · unfold RCr at h8 ⊢; rw [z2_ne (by omega), z2_ne (by omega), z2_ne (by omega)]; exact h8
/-- the patterns -/
theorem Par_pats_l : ∀ (f : Nat) (Q : QT) (K : Tk) (R : Nat → Nat → Option Nat) (I : Nat → Nat → Int32) (L : Nat → Nat → Int64), TkI n t K → QN Q → QB Q → (Q.2.2.2.2.2.2.2.1 Q.1.2.1).length + f = 3 → Q.1.2.1 < 8 → CS n t m u Q p K R I L → ∃ R' J L', EV ρ (d + 5) 141 4 [.ref 3, .int (nI Q.1.2.1), .int (nI 1), .int (nI (Q.2.2.2.2.2.2.2.1 Q.1.2.1).length)] [] (mk c R I L) = some ([.int (match yPats n t f Q K with
      | .ok _ => nI 1
      | .error _ => nI 0)], mk c R' J L') ∧ CF p I J ∧ CF p R R' ∧ CF p L L' ∧ (match yPats n t f Q K with
      | .ok (Q', K') => CS n t m u Q' p K' R' J L'
      | .error e => FSd e J) := by
  intro f
  induction f with
  | zero =>
    intro Q K R I L hK hN hB hf hd h
    obtain ⟨a1, a2, a3, a4, a5, a6⟩ := id h
    have hn := a1.2.1
    rw [bPar_readPatterns_4, if_neg (by decide), if_neg (nI_nlt (by omega) (by omega)), Par_fail_e (d := d + 3) a5, zci, bPar_readPatterns_18, zb0]
    unfold yPats
    exact ⟨_, _, _, rfl, CF_z CF_r (by omega), CF_r, CF_r, FSd_i hK hn ⟨4, by decide, by decide, rfl⟩⟩
  | succ f ih =>
    intro Q K R I L hK hN hB hf hd h
    obtain ⟨a1, a2, a3, a4, a5, a6⟩ := id h
    have hn := a1.2.1
    have hpg := isP_g a2
    have k1 := nxK_i hK
    have k5 := k1.1
    obtain ⟨R1, J1, L1, b1, b2, b3, b4, b5⟩ := CS_step (ρ := ρ) (d := d) (c := c) hK h
    obtain ⟨g1, g2, g3, g4, g5, g6⟩ := id b2
    rw [bPar_readPatterns_4, if_neg (by decide), if_pos (nI_lt (by omega) (by decide)), b1, zcv, bPar_readPatterns_23, g5.1, yPats_s]
    by_cases c4 : (nxK n t K).1 = 4
    · obtain ⟨i1, i2, i3, i4, i5⟩ := k1.2.2.2.2.2.2.2 c4
      simp only [if_pos c4]
      rw [if_pos (by rw [c4]), pk_mul, nI_add, zidx_n (by omega) (by decide), bPar_readPatterns_53, pk_mul, nI_add, zidx_n (by omega) (by decide), bPar_readPatterns_67, g3, zrs, zob (xp_o a2), xp_F11 a2, zrs, zar (xp_a9 a2), zidx_n hd (by decide), bPar_readPatterns_79, g5.2.1, z2_ne (by omega), g5.2.2.1, nI_add, nI_add, Nat.mul_comm Q.1.2.1 3]
      have hB' := yPt_v (Q := Q) (w := (nxK n t K).2.2.2) (by omega) ⟨i4, i2⟩ hB
      have hM : CS n t m u (yPt Q (nxK n t K).2.2.2) p (nxK n t K) R1 _ L1 := CS_i b2 (by rw [z2_ne (by omega), z2_ne (by omega), z2_ne (by omega)]) (by rw [z2_ne (by omega), z2_ne (by omega), z2_ne (by omega)]) (by rw [z2_ne (by omega), z2_ne (by omega), z2_ne (by omega)]) rfl rfl (RC_pt a2 hd hB (by omega) (OnT_k k1 c4) g6)
      obtain ⟨R2, J2, L2, s1, s2, s3, s4, s5⟩ := CS_step (ρ := ρ) (d := d) (c := c) k1 hM
      have hf1 : CF p I J2 := CF_t (CF_z (CF_z (CF_z (CF_3 b3) (by omega)) (by omega)) (by omega)) (CF_3 s3)
      have hf2 : CF p R R2 := CF_t (CF_3 b4) (CF_3 s4)
      have hf3 : CF p L L2 := CF_t (CF_3 b5) (CF_3 s5)
      rw [s1, zcv, bPar_readPatterns_83, C_key s2.2.2.2.2.1, nI_add]
      by_cases c5 : kW 4 (nxK n t (nxK n t K)) = true
      · simp only [if_pos c5]
        rw [if_pos ((C_kw s2.2.2.2.2.1 (i := 4) (by decide)).mpr c5)]
        obtain ⟨R4, J4, L4, p1, p2, p3, p4, p5⟩ := ih (yPt Q (nxK n t K).2.2.2) (nxK n t (nxK n t K)) R2 J2 L2 (nxK_i k1) hN hB' (by show (va_up Q.2.2.2.2.2.2.2.1 Q.1.2.1 (Q.2.2.2.2.2.2.2.1 Q.1.2.1 ++ [_]) Q.1.2.1).length + f = 3; rw [va_up_self, List.length_append]; show _ + 1 + f = 3; omega) hd s2
        have p1' : EV ρ (d + 5) 141 4 [.ref 3, .int (nI Q.1.2.1), .int (nI 1), .int (nI (va_up Q.2.2.2.2.2.2.2.1 Q.1.2.1 (Q.2.2.2.2.2.2.2.1 Q.1.2.1 ++ [(nxK n t K).2.2.2]) Q.1.2.1).length)] [] (mk c R2 J2 L2) = _ := p1
        rw [va_up_self, List.length_append] at p1'
        have p1'' : EV ρ (d + 5) 141 4 [.ref 3, .int (nI Q.1.2.1), .int (nI 1), .int (nI ((Q.2.2.2.2.2.2.2.1 Q.1.2.1).length + 1))] [] (mk c R2 J2 L2) = _ := p1'
        rw [p1'']
        exact ⟨R4, J4, L4, rfl, CF_t hf1 p2, CF_t hf2 p3, CF_t hf3 p4, p5⟩
      · simp only [if_neg c5]
        rw [if_neg (fun z => c5 ((C_kw s2.2.2.2.2.1 (i := 4) (by decide)).mp z)), bPar_readPatterns_4, if_pos (by decide)]
        exact ⟨_, _, _, rfl, hf1, hf2, hf3, s2⟩
    · simp only [if_neg c4]
      rw [if_neg (fun z => c4 ((nI_eq (by omega) (by omega)).mp z)), Par_fail_e (d := d + 3) g5, zci, bPar_readPatterns_36, zb0]
      exact ⟨_, _, _, rfl, CF_z (CF_3 b3) (by omega), CF_3 b4, CF_3 b5, FSd_i k1 hn ⟨1, by decide, by decide, rfl⟩⟩
/-- a step is put -/
theorem Pla_step_e {z x : Nat} (hz : z ≤ 4) (hp : isP p) (hv : Q.1.2.1 < 8) (hB : QB Q) (hl : (Q.2.2.2.1 Q.1.2.1).length < 6) (h : RC n t m u Q p R I L) : ∃ J, EV ρ (d + 1) 131 0 [.ref p, .int (nI Q.1.2.1), .ref (1005 + z), .int (nI x), zU] [] (mk c R I L) = some ([], mk c (z2 R (p + 11) (6 * Q.1.2.1 + (Q.2.2.2.1 Q.1.2.1).length) (some (1005 + z))) J L) ∧ RC n t m u (ySp Q (z, x)) p (z2 R (p + 11) (6 * Q.1.2.1 + (Q.2.2.2.1 Q.1.2.1).length) (some (1005 + z))) J L ∧ ∀ q, q ≠ p + 10 → q ≠ p + 12 → q ≠ p + 13 → q ≠ p + 14 → J q = I q := by
  have := isP_g hp
  obtain ⟨h1, h2, h3, h4, h5, h6, h7, h8⟩ := h
  obtain ⟨g1, g2, g3, g4⟩ := h7 Q.1.2.1 hv
  have hb : (Nat.ble 1000 (1005 + z) && Nat.ble (1005 + z) 1009) = true := by
    rw [Bool.and_eq_true, Nat.ble_eq, Nat.ble_eq]; omega
  rw [bPla_putStep_0, zob (xp_o hp), xp_F12 hp, zrs, zar (xp_a10 hp), zidx_n hv (by decide), zob (xp_o hp), xp_F13 hp, zrs, hb, cond_true, g1, pk_mul, nI_add, zar (xp_a11 hp), zidx_n (by omega) (by decide), bPla_putStep_21, zob (xp_o hp), xp_F14 hp, zrs, zar (xp_a12 hp), zidx_n (by omega) (by decide), bPla_putStep_29, zob (xp_o hp), xp_F12 hp, zrs, zar (xp_a10 hp), zidx_n hv (by decide), zar (xp_a10 hp), zidx_n hv (by decide), z2_ne (by omega), g1, nI_add, bPla_putStep_39, hb, cond_true, cond_true, Nat.mul_comm Q.1.2.1 6]
  have hfin : ∀ (J : Nat → Nat → Int32), (∀ q, q ≠ p + 13 → q ≠ p + 14 → J q = z2 (z2 I (p + 12) (6 * Q.1.2.1 + (Q.2.2.2.1 Q.1.2.1).length) (nI x)) (p + 10) Q.1.2.1 (nI ((Q.2.2.2.1 Q.1.2.1).length + 1)) q) → (∀ v, v ≠ Q.1.2.1 → J (p + 13) v = I (p + 13) v ∧ J (p + 14) v = I (p + 14) v) → J (p + 13) Q.1.2.1 = bitsL (ofk 2 (Q.2.2.2.1 Q.1.2.1 ++ [(z, x)])) → J (p + 14) Q.1.2.1 = bitsL (ofk 3 (Q.2.2.2.1 Q.1.2.1 ++ [(z, x)])) → RC n t m u (ySp Q (z, x)) p (z2 R (p + 11) (6 * Q.1.2.1 + (Q.2.2.2.1 Q.1.2.1).length) (some (1005 + z))) J L ∧ ∀ q, q ≠ p + 10 → q ≠ p + 12 → q ≠ p + 13 → q ≠ p + 14 → J q = I q := by
    intro J j1 j2 j3 j4
    have hJ : ∀ q, q ≠ p + 10 → q ≠ p + 12 → q ≠ p + 13 → q ≠ p + 14 → J q = I q := fun q y1 y2 y3 y4 => by rw [j1 q y3 y4, z2_ne y1, z2_ne y2]
    refine ⟨⟨?_, h2, ?_, ?_, ?_, ?_, fun v hv8 => ?_, ?_⟩, hJ⟩
    · unfold RCc at h1 ⊢; rw [hJ p (by omega) (by omega) (by omega) (by omega)]; exact h1
    · unfold RCi at h3 ⊢; rw [hJ 4 (by omega) (by omega) (by omega) (by omega), hJ 5 (by omega) (by omega) (by omega) (by omega)]; exact h3
    · unfold RCp at h4 ⊢; rw [hJ (p + 4) (by omega) (by omega) (by omega) (by omega), hJ (p + 5) (by omega) (by omega) (by omega) (by omega)]; exact h4
    · unfold RCe at h5 ⊢; rw [hJ (p + 6) (by omega) (by omega) (by omega) (by omega), hJ (p + 7) (by omega) (by omega) (by omega) (by omega), hJ (p + 8) (by omega) (by omega) (by omega) (by omega)]; exact h5
    · unfold RCt at h6 ⊢; rw [hJ (p + 9) (by omega) (by omega) (by omega) (by omega), hJ 6 (by omega) (by omega) (by omega) (by omega), hJ 7 (by omega) (by omega) (by omega) (by omega)]; exact h6
    · obtain ⟨x1, x2, x3, x4⟩ := h7 v hv8
      show _ = nI (va_up Q.2.2.2.1 Q.1.2.1 (Q.2.2.2.1 Q.1.2.1 ++ [(z, x)]) v).length ∧ (∀ k y, (va_up Q.2.2.2.1 Q.1.2.1 (Q.2.2.2.1 Q.1.2.1 ++ [(z, x)]) v)[k]? = some y → _) ∧ _ = bitsL (ofk 2 (va_up Q.2.2.2.1 Q.1.2.1 (Q.2.2.2.1 Q.1.2.1 ++ [(z, x)]) v)) ∧ _ = bitsL (ofk 3 (va_up Q.2.2.2.1 Q.1.2.1 (Q.2.2.2.1 Q.1.2.1 ++ [(z, x)]) v))
      rw [j1 (p + 10) (by omega) (by omega), j1 (p + 12) (by omega) (by omega)]
      by_cases ev : v = Q.1.2.1
      · subst ev
        rw [va_up_self, z2_at]
        refine ⟨by rw [List.length_append]; rfl, fun k y hy => ?_, j3, j4⟩
        rw [z2_ne (show p + 12 ≠ p + 10 from by omega)]
        rcases ap_at hy with g | ⟨g, g'⟩
        · have hk := (List.getElem?_eq_some_iff.mp g).1
          rw [z2a, if_neg (by omega), z2a, if_neg (by omega)]
          exact x2 k y g
        · subst g g'
          rw [z2_at, z2_at]
          exact ⟨rfl, rfl⟩
      · rw [va_up_ne _ _ ev]
        refine ⟨?_, fun k y hy => ?_, (j2 v ev).1.trans x3, (j2 v ev).2.trans x4⟩
        · rw [z2a, if_neg (by omega), z2_ne (by omega)]; exact x1
        · have hk := (List.getElem?_eq_some_iff.mp hy).1
          have := (hB.2.2.1 v).1
          rw [z2a, if_neg (by omega), z2_ne (by omega), z2a, if_neg (by omega)]
          exact x2 k y hy
    · unfold RCr at h8 ⊢; rw [hJ (p + 37) (by omega) (by omega) (by omega) (by omega)]; exact h8
  by_cases c2 : z = 2
  · subst c2
    rw [if_pos rfl, zob (xp_o hp), xp_F15 hp, zrs, zar (xp_a13 hp), zidx_n hv (by decide), zar (xp_a13 hp), zidx_n hv (by decide), z2_ne (by omega), z2_ne (by omega), g3, bPla_putStep_58, bPla_putStep_80]
    refine ⟨_, rfl, hfin _ (fun q y1 y2 => z2_ne y1) (fun v ev => ⟨?_, ?_⟩) ?_ ?_⟩
    · rw [z2a, if_neg (by omega), z2_ne (by omega), z2_ne (by omega)]
    · rw [z2_ne (by omega), z2_ne (by omega), z2_ne (by omega)]
    · rw [z2_at, ofk_s, if_pos rfl, bitsL_s]
    · rw [z2_ne (by omega), z2_ne (by omega), z2_ne (by omega), ofk_s, if_neg (show ¬ (2 : Nat) = 3 by decide)]; exact g4
  · rw [if_neg (fun y => c2 (by have := Option.some.inj y; omega))]
    by_cases c3 : z = 3
    · subst c3
      rw [if_pos rfl, zob (xp_o hp), xp_F16 hp, zrs, zar (xp_a14 hp), zidx_n hv (by decide), zar (xp_a14 hp), zidx_n hv (by decide), z2_ne (by omega), z2_ne (by omega), g4, bPla_putStep_80]
      refine ⟨_, rfl, hfin _ (fun q y1 y2 => z2_ne y2) (fun v ev => ⟨?_, ?_⟩) ?_ ?_⟩
      · rw [z2_ne (by omega), z2_ne (by omega), z2_ne (by omega)]
      · rw [z2a, if_neg (by omega), z2_ne (by omega), z2_ne (by omega)]
      · rw [z2_ne (by omega), z2_ne (by omega), z2_ne (by omega), ofk_s, if_neg (show ¬ (3 : Nat) = 2 by decide)]; exact g3
      · rw [z2_at, ofk_s, if_pos rfl, bitsL_s]
    · rw [if_neg (fun y => c3 (by have := Option.some.inj y; omega)), bPla_putStep_80]
      refine ⟨_, rfl, hfin _ (fun q y1 y2 => rfl) (fun v ev => ⟨?_, ?_⟩) ?_ ?_⟩
      · rw [z2_ne (by omega), z2_ne (by omega)]
      · rw [z2_ne (by omega), z2_ne (by omega)]
      · rw [z2_ne (by omega), z2_ne (by omega), ofk_s, if_neg c2]; exact g3
      · rw [z2_ne (by omega), z2_ne (by omega), ofk_s, if_neg c3]; exact g4
theorem Key_step_e : ∀ (i : Nat), i < 10 → EV ρ (d + 1) 133 0 [.ref (1000 + i)] [] (mk c R I L) = some ([.int (bo (decide (5 ≤ i)))], mk c R I L) := by
  intro i hi
  rw [bKey_isStep_0]
  have hi2 : i = 0 ∨ i = 1 ∨ i = 2 ∨ i = 3 ∨ i = 4 ∨ i = 5 ∨ i = 6 ∨ i = 7 ∨ i = 8 ∨ i = 9 := by omega
  rcases hi2 with rfl | rfl | rfl | rfl | rfl | rfl | rfl | rfl | rfl | rfl <;> rfl
end CREAD3
