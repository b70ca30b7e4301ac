-- THE START: both sides hold the empty board
theorem dcd {p : Prop} [Decidable p] (h : decide p = true) : p := of_decide_eq_true h
theorem WS_0 {F : Nat → Nat → Option Nat} {R : Nat → Nat → Option Nat} {I : Nat → Nat → Int32} {L : Nat → Nat → Int64} {t : Nat → Nat} (hR : ckR R = true) (hS : ckS I = true) (hM : ckM I = true) (hC : ckC I = true) (hB : ckB I = true) : WS 0 t Q0 (tNew [] 0) 0 10 R I L := by
  unfold ckR at hR
  unfold ckM at hM
  unfold ckC at hC
  unfold ckB at hB
  simp only [Bool.and_eq_true, decide_eq_true_eq, List.all_eq_true, List.mem_range] at hR hM hC hB
  obtain ⟨q1, q2, q3⟩ := Q0_v
  have hV := plQ_v q1 q2
  have hrow : ∀ j, j < 443 → I 274 j = sRow j := fun j hj => by
    unfold ckS at hS
    exact of_decide_eq_true (List.all_eq_true.mp hS j (List.mem_range.mpr hj))
  have z : ∀ j, j < 443 → j ≠ 439 → ¬ (12 ≤ j ∧ j < 24) → ¬ (36 ≤ j ∧ j < 48) → ¬ (264 ≤ j ∧ j < 288) → I 274 j = nI 0 := fun j h0 h1 h2 h3 h4 => by
    rw [hrow j h0]; unfold sRow; rw [if_neg (by omega), if_neg h1]
  have m : ∀ j, j < 443 → ((12 ≤ j ∧ j < 24) ∨ (36 ≤ j ∧ j < 48) ∨ (264 ≤ j ∧ j < 288)) → I 274 j = -1 := fun j h0 h1 => by
    rw [hrow j h0]; unfold sRow; rw [if_pos h1]
  have hMR : MR (tNew [] 0) (I 274) := ⟨fun x hx => ⟨z _ (by omega) (by omega) (by omega) (by omega) (by omega), m _ (by omega) (by omega)⟩, fun x hx => ⟨z _ (by omega) (by omega) (by omega) (by omega) (by omega), m _ (by omega) (by omega), z _ (by omega) (by omega) (by omega) (by omega) (by omega), z _ (by omega) (by omega) (by omega) (by omega) (by omega), z _ (by omega) (by omega) (by omega) (by omega) (by omega)⟩, ⟨fun j hj => m _ (by omega) (by omega), fun j hj => m _ (by omega) (by omega), (by rw [hrow 439 (by decide)]; rfl), z _ (by omega) (by omega) (by omega) (by omega) (by omega)⟩, ⟨z _ (by omega) (by omega) (by omega) (by omega) (by omega), by decide, fun i v hi => (by cases hi)⟩, ⟨z _ (by omega) (by omega) (by omega) (by omega) (by omega), by decide, fun i v hi => (by cases hi)⟩, ⟨z _ (by omega) (by omega) (by omega) (by omega) (by omega), fun _ => 0, fun x hx => (by cases hx), List.Pairwise.nil⟩, fun x hx => ⟨by show 0 ≤ 6; omega, z _ (by omega) (by omega) (by omega) (by omega) (by omega), fun i v hi => (by cases hi)⟩⟩
  have hRM : RM Q0.1.1 Q0.1.2.1 Q0 0 I L := ⟨⟨hM.2.2.1, hM.2.2.2.1, hM.2.2.2.2⟩, ⟨fun x hx => absurd hx (Nat.not_lt_zero _), fun x hx => absurd hx (Nat.not_lt_zero _), fun x hx => absurd hx (Nat.not_lt_zero _)⟩, fun x hx => absurd hx (Nat.not_lt_zero _), fun x hx => absurd hx (Nat.not_lt_zero _), fun x hx => absurd hx (Nat.not_lt_zero _), fun x hx => absurd hx (Nat.not_lt_zero _), fun x hx => absurd hx (Nat.not_lt_zero _)⟩
  obtain ⟨c0, c1, c2, c3, c4, c5, c6, c7, c8, c9, c10, c11, c12, c13⟩ := hC
  have hPC : PC (plQ Q0) 10 R I := ⟨.inl rfl, c2, c3, c4, fun x hx => absurd hx (Nat.not_lt_zero _), fun x hx => absurd hx (Nat.not_lt_zero _)⟩
  have nil_ : ∀ q, I q 1 = nI 0 → RowIs I q [] := fun q h => ⟨h, by decide, fun i v hi => (by cases hi)⟩
  have hCR : CR 86 (tNew [] 0) I := ⟨fun x hx => ⟨(hB.1 x hx).1, fun z => (by cases z)⟩, fun x hx => ⟨(hB.1 x hx).2.1, (hB.1 x hx).2.2.1, (hB.1 x hx).2.2.2.1, (hB.1 x hx).2.2.2.2⟩, ⟨fun j hj => hB.2.1 j hj, fun j hj => hB.2.2 j hj, c9, c10⟩, nil_ _ c12, nil_ _ c13, fun _ => ⟨⟨c6, by decide, c8, 0, by decide, c7, fun k e he => (by cases he)⟩, fun j hj => by
    rw [c11, show bt (nI 0) j = false from b_0 j]
    show false = (decide (j < 12) && false)
    rw [Bool.and_false]⟩, c5⟩
  exact ⟨q1, q2, NS_new _ _ _, ⟨⟨hV, plQ_m q1 q2 (by decide) hM.1 hRM, hMR⟩, hRM, ⟨hM.2.1, by decide, fun i hi => absurd hi (Nat.not_lt_zero _)⟩⟩, ⟨⟨hR.1, ⟨⟨.inl rfl, hV, hR.2.2, hPC, hCR⟩, IV_new _ _ _, CH_new⟩⟩, hR.2.1, ⟨⟨fun x hx => absurd hx (Nat.not_lt_zero _), fun x hx => absurd hx (Nat.not_lt_zero _), fun x hx => absurd hx (Nat.not_lt_zero _)⟩, fun v hv => absurd hv (Nat.not_lt_zero _)⟩, ⟨c1, by decide, fun i hi => absurd hi (Nat.not_lt_zero _)⟩, .inl c0⟩⟩
/-- runs by steps, with something behind them -/
def rnK (ρ : Nat × (Nat → Int32)) (call : Nat → List Value → Sg → Rs) (mi : Nat) (K : Kn) : Nat → Kn
  | 0 => K
  | f + 1 => fun pc xs st s => stp zC zN ρ call mL (tab mi pc) xs st s (fun n ys t τ => rnK ρ call mi K f n (kk mi n ys) t τ)
theorem rnK_succ (ρ : Nat × (Nat → Int32)) (call : Nat → List Value → Sg → Rs) (mi f pc : Nat) (K : Kn) (xs st : List Value) (s : Sg) : rnK ρ call mi K (f + 1) pc xs st s = stp zC zN ρ call mL (tab mi pc) xs st s (fun n ys t τ => rnK ρ call mi K f n (kk mi n ys) t τ) := rfl
/-- what is evaluated of the constructors -/
theorem chk_i : ∃ s u, rd0 3000 6 192 [.ref 0, zU, zU] (nwS σ0 10) = some ([], s) ∧ s.1.1 = 257 ∧ s.1.2.1 = 0 ∧ rd0 6000 3 0 [.ref 257] (nwS s 37) = some ([], u) ∧ u.1.1 = 280 ∧ u.1.2.1 = 0 ∧ cks (nwS u 1) = true := by
  have h := chk_t
  unfold chk at h
  generalize rd0 3000 6 192 [.ref 0, zU, zU] (nwS σ0 10) = o at h
  rcases o with _ | ⟨_ | ⟨v, vs⟩, s⟩
  · cases h
  · simp only [Bool.and_eq_true] at h
    obtain ⟨⟨h1, h2⟩, h3⟩ := h
    generalize e2 : rd0 6000 3 0 [.ref 257] (nwS s 37) = o at h3
    rcases o with _ | ⟨_ | ⟨v, vs⟩, u⟩
    · cases h3
    · simp only [Bool.and_eq_true] at h3
      obtain ⟨⟨h4, h5⟩, h6⟩ := h3
      exact ⟨s, u, rfl, Nat.eq_of_beq_eq_true h1, Nat.eq_of_beq_eq_true h2, e2, Nat.eq_of_beq_eq_true h4, Nat.eq_of_beq_eq_true h5, h6⟩
    · cases h3
  · cases h
set_option maxHeartbeats 2000000 in
/-- the law up to its loop -/
theorem law_0 (ρ : Nat × (Nat → Int32)) : ∃ (F R : Nat → Nat → Option Nat) (I : Nat → Nat → Int32) (L : Nat → Nat → Int64) (sl : Nat), sl ≤ 7000 ∧ ckF F = true ∧ WS 0 (fun _ => 0) Q0 (tNew [] 0) 0 10 R I L ∧ ∀ (d : Nat) (K : Kn), rnK ρ (fun mi xs s => EV ρ (d + 6) mi 0 xs [] s) 235 K 13 0 [.ref 2000, zU, zU, zU, zU, zU, zU] [] σ0 = K 23 [.ref 2000, .ref 0, .ref 257, .ref 280, .int (nI 0), zU, zU] [] ((281, 0, sl), F, R, I, L) := by
  obtain ⟨s, u, h1, h2, h3, h4, h5, h6, h7⟩ := chk_i
  obtain ⟨⟨n1, x1, l1⟩, F1, R1, I1, L1⟩ := s
  obtain ⟨⟨n2, x2, l2⟩, F2, R2, I2, L2⟩ := u
  simp only at h2 h3 h5 h6
  subst h2 h3 h5 h6
  unfold cks at h7
  simp only [Bool.and_eq_true] at h7
  obtain ⟨⟨g1, g2, g3⟩, g4, g5, g6, g7, g8, g9⟩ := h7
  refine ⟨(nwS ((280, 0, l2), F2, R2, I2, L2) 1).2.1, (nwS ((280, 0, l2), F2, R2, I2, L2) 1).2.2.1, (nwS ((280, 0, l2), F2, R2, I2, L2) 1).2.2.2.1, (nwS ((280, 0, l2), F2, R2, I2, L2) 1).2.2.2.2, l2 + 1, Nat.le_of_ble_eq_true g3, g4, WS_0 (F := F2) g5 g6 g7 g8 g9, fun d K => ?_⟩
  have e1 : EV ρ (d + 6) 192 0 [.ref 0, zU, zU] [] (nwS σ0 10) = some ([], ((257, 0, l1), F1, R1, I1, L1)) := by
    rw [Nat.add_comm]
    exact EV_dn ρ (rd0_EV ρ 6 192 _ _ _ h1) d
  have e2 : EV ρ (d + 6) 0 0 [.ref 257] [] (nwS ((257, 0, l1), F1, R1, I1, L1) 37) = some ([], ((280, 0, l2), F2, R2, I2, L2)) := by
    rw [show d + 6 = 3 + (d + 3) from by omega]
    exact EV_dn ρ (rd0_EV ρ 3 0 _ _ _ h4) (d + 3)
  have s1 : rnK ρ (fun mi xs s => EV ρ (d + 6) mi 0 xs [] s) 235 K 13 0 [.ref 2000, zU, zU, zU, zU, zU, zU] [] σ0 = zcV (EV ρ (d + 6) 192 0 [.ref 0, zU, zU] [] (nwS σ0 10)) (fun s => rnK ρ (fun mi xs s => EV ρ (d + 6) mi 0 xs [] s) 235 K 10 7 [.ref 2000, zU, zU, zU, zU, zU, zU] [.ref 0] s) := rfl
  have s2 : rnK ρ (fun mi xs s => EV ρ (d + 6) mi 0 xs [] s) 235 K 10 7 [.ref 2000, zU, zU, zU, zU, zU, zU] [.ref 0] ((257, 0, l1), F1, R1, I1, L1) = zcV (EV ρ (d + 6) 0 0 [.ref 257] [] (nwS ((257, 0, l1), F1, R1, I1, L1) 37)) (fun s => rnK ρ (fun mi xs s => EV ρ (d + 6) mi 0 xs [] s) 235 K 6 15 [.ref 2000, .ref 0, zU, zU, zU, zU, zU] [.ref 257] s) := rfl
  rw [s1, e1, zcv, s2, e2, zcv]
  rfl
