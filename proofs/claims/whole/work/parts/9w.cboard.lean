-- THE COMPONENT: a board
section CBOARD
variable {ρ : Nat × (Nat → Int32)} {d : Nat} {c : Nat × Nat} {R S : Nat → Nat → Option Nat} {I J : Nat → Nat → Int32} {L L' : Nat → Nat → Int64} {P : PT} {p p' n : Nat} {t : Nat → Nat} {T : TT}
theorem PC_S (h : PC P p R I) (hS : S (p + 11) = R (p + 11)) : PC P p S I := by
  obtain ⟨h0, a1, a2, a3, a4, a5⟩ := h
  refine ⟨h0, a1, a2, a3, a4, fun v hv => ?_⟩
  obtain ⟨b1, b2, b3⟩ := a5 v hv
  refine ⟨b1, fun k z hz => ?_, b3⟩
  rw [hS]
  exact b2 k z hz
theorem BX_fr (h : BX P p T R I) (hF : ∀ q, (86 ≤ q ∧ q ≤ 104) ∨ q = 8 ∨ q = 9 ∨ (p ≤ q ∧ q ≤ p + 37) → J q = I q) (h0 : S 0 8 = R 0 8) (h86 : S 86 0 = R 86 0) (hp : S (p + 11) = R (p + 11)) : BX P p T S J := by
  obtain ⟨hR8, ⟨hb, hV, hR, hC, hT⟩, hI, hH⟩ := h
  refine ⟨h0.trans hR8, ⟨hb, hV, h86.trans hR, PC_S (PC_to hC hV (fun q h1 h2 => hF q (by omega))) hp, CR_to hT (fun k hk => hF _ (by simp only [List.mem_cons, List.not_mem_nil, or_false] at hk; omega)) (by rw [hF 86 (by omega)]) (by rw [hF 86 (by omega)]) (by rw [hF 86 (by omega)]) (fun _ => ⟨hF _ (by omega), hF _ (by omega)⟩) (by rw [hF 104 (by omega)])⟩, hI, fun x hx h3 => ?_⟩
  rw [hF _ (by omega)]
  exact hH x hx h3
/-- the log of a new state may be cleared -/
theorem BX_clr {g : List (Int32 × Int32 × Int32)} (h : BX P p (tNew g n) R I) (hJ : JouIs J []) (hF : ∀ q, q ≠ 8 → J q = I q) : BX P p (tNew [] n) R J := by
  obtain ⟨hR8, ⟨hb, hV, hR, hC, hT⟩, hI, hH⟩ := h
  have hp := isP_g hC.1
  obtain ⟨g1, g2, ⟨g3, g4, g5, g6⟩, g7, g8, g9, g10⟩ := hT
  refine ⟨hR8, ⟨hb, hV, hR, PC_to hC hV (fun q h1 h2 => hF q (by omega)), ⟨?_, ?_, ⟨?_, ?_, ?_, ?_⟩, ?_, ?_, fun e => ⟨hJ, ?_⟩, ?_⟩⟩, IV_new P [] n, CH_new⟩
  · rw [hF (86 + 1) (by decide), hF (86 + 2) (by decide)]; exact g1
  · rw [hF (86 + 3) (by decide), hF (86 + 4) (by decide), hF (86 + 7) (by decide), hF (86 + 6) (by decide)]; exact g2
  · rw [hF (86 + 8) (by decide)]; exact g3
  · rw [hF (86 + 9) (by decide)]; exact g4
  · rw [hF 86 (by decide)]; exact g5
  · rw [hF 86 (by decide)]; exact g6
  · exact RowIs_to g7 (hF _ (by decide)) (hF _ (by decide))
  · exact RowIs_to g8 (hF _ (by decide)) (hF _ (by decide))
  · rw [hF 86 (by decide)]; exact (g9 rfl).2
  · rw [hF 104 (by decide)]; exact g10
theorem B_board_e (h : BX P p T R I) (h9 : R 0 9 = some p') (hp' : isP p') (hne : p' ≠ p) (hT : TC n t I) : ∃ S J L', EV ρ (d + 30) 195 0 [.ref 0, zU, zU] [] (mk c R I L) = some ([.int (pBrd n t).1], mk c S J L') ∧ J 1 1 = nI 0 ∧ (∀ q, 257 ≤ q → J q = I q) ∧ (∀ q, 257 ≤ q → L' q = L q) ∧ (match (pBrd n t).2 with
    | none => BX P p T S J ∧ S 0 9 = some p' ∧ (∀ q, q = 0 ∨ q = 256 ∨ (p ≤ q ∧ q ≤ p + 37) → J q = I q) ∧ (∀ q, p ≤ q ∧ q ≤ p + 37 → L' q = L q)
    | some Q => BX (plQ Q) p' (tNew [] 0) S J ∧ S 0 9 = some p ∧ J 0 7 = nI 0 ∧ NMc Q p' J L') := by
  have hpp := h.2.1.2.2.2.1.1
  have g1 := isP_g hp'
  have g2 := isP_g hpp
  have gd : p' + 38 ≤ p ∨ p + 38 ≤ p' := by unfold isP at hp' hpp; omega
  rw [bB_board_0, hT.1]
  unfold pBrd
  by_cases c6 : n ≤ 600
  · simp only [if_pos c6]
    rw [if_pos (nI_le c6 (by decide)), h9, zrs]
    obtain ⟨R1, J1, L1, b1, b2, b3, b4⟩ := Par_parse_l (ρ := ρ) (d := d + 22) (c := c) (R := R) (L := L) hp' hT
    cases ey : yBoard n t with
    | error y =>
      rw [ey] at b4
      simp only at b4 ⊢
      have hy : ¬ nI y = 0 := by
        have hb : 1 ≤ y ∧ y ≤ 5188 := yBoard_b hT.2.1 ey
        exact nI_ne0 (by omega) (by omega)
      rw [b4, zci, bB_board_34, bB_board_43, if_neg hy]
      refine ⟨R1, _, L1, rfl, z2_at _ _ _ _, fun q hq => ?_, fun q hq => ?_, BX_fr h (fun q hq => ?_) (by rw [b2 0 (by omega) (by omega)]) (by rw [b2 86 (by omega) (by omega)]) (b2 _ (by omega) (by omega)), by rw [b2 0 (by omega) (by omega)]; exact h9, fun q hq => ?_, fun q hq => ?_⟩
      · rw [z2_ne (by omega), b1 q (by omega) (by omega)]
      · rw [b3 q (by omega) (by omega)]
      · rw [z2_ne (by omega), b1 q (by omega) (by omega)]
      · rw [z2_ne (by omega), b1 q (by omega) (by omega)]
      · rw [b3 q (by omega) (by omega)]
    | ok Q =>
      rw [ey] at b4
      simp only at b4 ⊢
      obtain ⟨b4, K', b5⟩ := b4
      obtain ⟨v1, v2, v3⟩ := yBoard_v ey
      obtain ⟨J2, s1, s2, s3, s4⟩ := Par_score_e (ρ := ρ) (d := d + 22) (c := c) v1 v2 b5
      have hV := plQ_v v1 v2
      rw [b4, s1, zcv, bPar_parse_114, s4 3 (by omega), b5.2.2.2.1, zci, bB_board_34, bB_board_43, if_pos (by decide), b2 0 (by omega) (by omega), h9, zrs, h.1, znl, bB_board_65, bB_board_70, z2_at, zrs]
      have hJ2 : ∀ q, ¬ (3 ≤ q ∧ q ≤ 7) → ¬ (p' ≤ q ∧ q ≤ p' + 37) → J2 q = I q := fun q y1 y2 => by rw [s4 q (by omega), b1 q y1 y2]
      have hjou : JouIs (z2 J2 1 1 (nI 0)) T.2.1.2.2 := JouIs_to (h.2.1.2.2.2.2.2.2.2.2.2.1 rfl).1 (by rw [z2_ne (by decide), hJ2 8 (by omega) (by omega)]) (by rw [z2_ne (by decide), hJ2 9 (by omega) (by omega)])
      have h104 : z2 J2 1 1 (nI 0) 104 0 = nI 0 := by rw [z2_ne (by decide), hJ2 104 (by omega) (by omega)]; exact h.2.1.2.2.2.2.2.2.2.2.2.2
      have hPC : PC (plQ Q) p' (z2 (z2 R1 0 9 (some p)) 0 8 (some p')) (z2 J2 1 1 (nI 0)) := PC_S (PC_to s2 hV (fun q y1 y2 => z2_ne (by omega))) (by rw [z2_ne (by omega), z2_ne (by omega)])
      obtain ⟨J3, m1, m2, m3, m4, m5⟩ := Ben_reset_i (ρ := ρ) (d := d + 26) (c := c) (L := L1) (n := 0) hV (Or.inl rfl : isB 86) hPC (fun _ => hjou) h104
      obtain ⟨m6, m7⟩ := Jou_clear_e (ρ := ρ) (d := d + 28) (c := c) (R := z2 (z2 (z2 R1 0 9 (some p)) 0 8 (some p')) 86 0 (some p')) (L := L1) (JouIs_to hjou (m5 8 (by omega)) (m5 9 (by omega)))
      have hS8 : z2 (z2 (z2 R1 0 9 (some p)) 0 8 (some p')) 86 0 (some p') 0 8 = some p' := by rw [z2_ne (by decide), z2_at]
      have hBX0 : BX (plQ Q) p' (tNew T.2.1.2.2 0) (z2 (z2 (z2 R1 0 9 (some p)) 0 8 (some p')) 86 0 (some p')) J3 := ⟨hS8, m2⟩
      have hBX1 := BX_clr hBX0 m7 (fun q hq => by rw [z2_ne hq, z2_ne hq])
      have hBX2 : BX (plQ Q) p' (tNew [] 0) (z2 (z2 (z2 R1 0 9 (some p)) 0 8 (some p')) 86 0 (some p')) (z2 (z2 (z2 J3 8 2 (nI 0)) 8 3 (nI 0)) 0 7 (nI 0)) := BX_fr hBX1 (fun q hq => z2_ne (by omega)) rfl rfl rfl
      have hC2 := hBX2.2.1.2.2.2.1
      rw [m1, zcv, bB_board_81, m6, zcv, bB_board_88, bB_board_93, hS8, zrs, zob (xp_o hp'), zrs, zob (xp_o hp'), hC2.2.1, hC2.2.2.1, nI_add]
      have hfr : ∀ q, q ≠ 0 → q ≠ 1 → q ≠ 8 → ¬ (86 ≤ q ∧ q ≤ 103) → z2 (z2 (z2 J3 8 2 (nI 0)) 8 3 (nI 0)) 0 7 (nI 0) q = J2 q := fun q y0 y1 y2 y3 => by rw [z2_ne y0, z2_ne y2, z2_ne y2, m5 q (by omega), z2_ne y1]
      refine ⟨_, _, L1, rfl, ?_, fun q hq => ?_, fun q hq => ?_, hBX2, ?_, z2_at _ _ _ _, s3.1, fun v hv => ?_⟩
      · rw [z2_ne (by decide), z2_ne (by decide), z2_ne (by decide), m5 1 (by omega), z2_at]
      · rw [hfr q (by omega) (by omega) (by omega) (by omega), hJ2 q (by omega) (by omega)]
      · rw [b3 q (by omega) (by omega)]
      · rw [z2_ne (by decide), z2a, if_neg (by omega), z2_at]
      · rw [hfr (p' + 9) (by omega) (by omega) (by omega) (by omega)]; exact s3.2 v hv
  · simp only [if_neg c6]
    rw [if_neg (nI_ge (by omega) (by have := hT.2.1; omega)), bB_board_21]
    exact ⟨R, _, L, rfl, z2_at _ _ _ _, fun q hq => z2_ne (by omega), fun _ _ => rfl, BX_fr h (fun q hq => z2_ne (by omega)) rfl rfl rfl, h9, fun q hq => z2_ne (by omega), fun _ _ => rfl⟩
end CBOARD
