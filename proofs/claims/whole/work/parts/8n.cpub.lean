-- THE COMPONENT: calls that change what stands
theorem tSettle_id (P : PT) (T : TT) (n : Nat) : tSettle P n T.2.2.2.2 T = T := by
  cases n with
  | zero => rfl
  | succ n => unfold tSettle; rw [if_neg (Nat.lt_irrefl _)]
section CPUB
variable {ρ : Nat × (Nat → Int32)} {d : Nat} {c : Nat × Nat} {R : Nat → Nat → Option Nat} {I J : Nat → Nat → Int32} {L : Nat → Nat → Int64} {P : PT} {p : Nat} {T : TT}
/-- the component holds T -/
def BX (P : PT) (p : Nat) (T : TT) (R : Nat → Nat → Option Nat) (I : Nat → Nat → Int32) : Prop := R 0 8 = some p ∧ CI P 86 p T R I
/-- what the calls leave as it is -/
def FW (I J : Nat → Nat → Int32) : Prop := ∀ q j, ¬ (86 ≤ q ∧ q ≤ 103) → q ≠ 8 → q ≠ 9 → ¬ (q = 0 ∧ j = 7) → J q j = I q j
theorem FW.rf : FW I I := fun _ _ _ _ _ _ => rfl
theorem FW.tr {K : Nat → Nat → Int32} (h : FW I J) (g : FW J K) : FW I K := fun q j h1 h2 h3 h4 => (g q j h1 h2 h3 h4).trans (h q j h1 h2 h3 h4)
theorem FB.w (h : FB 86 I J) : FW I J := fun q j h1 h2 h3 _ => by rw [h q (by omega) (by omega)]
theorem FW_07 (v : Int32) : FW I (z2 I 0 7 v) := fun q j _ _ _ h => by rw [z2a, if_neg h]
/-- behind a call -/
def BO (P : PT) (p : Nat) (T U : TT) (R : Nat → Nat → Option Nat) (I J : Nat → Nat → Int32) : Prop := BX P p U R J ∧ FW I J ∧ (J 0 7 = nI 0 ∨ (J = I ∧ U = T))
theorem BO.no (h : BX P p T R I) : BO P p T T R I I := ⟨h, FW.rf, Or.inr ⟨rfl, rfl⟩⟩
theorem CI_07 (h : CI P 86 p T R I) (v : Int32) : CI P 86 p T R (z2 I 0 7 v) := by
  obtain ⟨⟨hb, hV, hR, hC, hT⟩, hI, hH⟩ := h
  have hp := hC.1
  refine ⟨⟨hb, hV, hR, PC_to hC hV (fun q h1 h2 => z2_ne (by unfold isP at hp; omega)), CR_to hT (fun k _ => z2_ne (by omega)) (by rw [z2_ne (by omega)]) (by rw [z2_ne (by omega)]) (by rw [z2_ne (by omega)]) (fun _ => ⟨z2_ne (by omega), z2_ne (by omega)⟩) (by rw [z2_ne (by omega)])⟩, hI, fun x hx h3 => ?_⟩
  rw [z2_ne (by omega)]
  exact hH x hx h3
theorem Pla_dev_e (hC : PC P p R I) (v : Int32) : EV ρ (d + 1) 126 0 [.ref p, .int v] [] (mk c R I L) = some ([.int (bo (inN v P.1.1))], mk c R I L) := by
  rw [bPla_hasDevice_0]
  unfold inN
  by_cases e1 : v < 0
  · rw [if_pos e1, decide_eq_false (fun z => z.1 e1)]; rfl
  · rw [if_neg e1, zob (xp_o hC.1), hC.2.1]
    by_cases e2 : nI P.1.1 ≤ v
    · rw [if_pos e2, decide_eq_false (fun z => z.2 e2)]; rfl
    · rw [if_neg e2, decide_eq_true ⟨e1, e2⟩]; rfl
theorem Pla_drv_e (hC : PC P p R I) (v : Int32) : EV ρ (d + 1) 127 0 [.ref p, .int v] [] (mk c R I L) = some ([.int (bo (inN v P.1.2.1))], mk c R I L) := by
  rw [bPla_hasDriver_0]
  unfold inN
  by_cases e1 : v < 0
  · rw [if_pos e1, decide_eq_false (fun z => z.1 e1)]; rfl
  · rw [if_neg e1, zob (xp_o hC.1), hC.2.2.1]
    by_cases e2 : nI P.1.2.1 ≤ v
    · rw [if_pos e2, decide_eq_false (fun z => z.2 e2)]; rfl
    · rw [if_neg e2, decide_eq_true ⟨e1, e2⟩]; rfl
theorem B_conclude_e (h : CI P 86 p T R I) {c0 : Nat} (h0 : c0 ≤ T.2.2.2.2) (hc : T.2.2.2.2 + 12 < 2 ^ 30 + T.1.2.2.1.length) (h18 : I 86 18 = nI (T.2.2.2.2 - c0)) : ∃ J, EV ρ (d + 7) 204 0 [.ref 0] [] (mk c R I L) = some ([], mk c R J L) ∧ CI P 86 p (tSync P (tSettle P 13 c0 T)) R J ∧ FW I J ∧ J 0 7 = nI 0 ∧ J 86 18 = nI ((tSync P (tSettle P 13 c0 T)).2.2.2.2 - c0) ∧ J 102 = I 102 ∧ J 103 = I 103 := by
  obtain ⟨K, g1, g2, g3, g4, g5⟩ := Ben_settle_e (ρ := ρ) (d := d) (c := c) (L := L) h h0 hc h18
  obtain ⟨M, m1, m2, m3, m4⟩ := Ben_sync_e (ρ := ρ) (d := d + 2) (c := c) (L := L) g2
  rw [bB_conclude_0, g1, zcv, bB_conclude_7, m1, zcv, bB_conclude_14, bB_conclude_19]
  have hF := g3.tr (m3.mo (by decide))
  refine ⟨_, rfl, CI_07 m2 _, hF.1.w.tr (FW_07 _), z2_at _ _ _ _, ?_, ?_, ?_⟩
  · rw [z2_ne (by omega), m4, g5.at h0 h18, (SF_sync P _).2.2.2.2.2.2.2.2.2.2.2.2.2]
  · rw [z2_ne (by omega)]; exact hF.2 16 (by decide)
  · rw [z2_ne (by omega)]; exact hF.2 17 (by decide)
theorem bf_c {U : TT} (h : BF T U) (hc : T.2.2.2.2 + 24 < 2 ^ 30) : U.2.2.2.2 + 12 < 2 ^ 30 + U.1.2.2.1.length := by
  have := h.2.1
  omega
theorem B_add_e (h : BX P p T R I) (hc : T.2.2.2.2 + 24 < 2 ^ 30) (v : Int32) : ∃ J, EV ρ (d + 30) 196 0 [.ref 0, .int v, zU] [] (mk c R I L) = some ([.int (pAdd P T v).1], mk c R J L) ∧ BO P p T (pAdd P T v).2 R I J := by
  have hX := h
  obtain ⟨hR8, hCI⟩ := h
  have hV := hCI.1.2.1
  have hC := hCI.1.2.2.2.1
  have hT := hCI.1.2.2.2.2
  have hI := hCI.2.1
  have h12 := hV.1
  have hp := hC.1
  have hst : ∀ y, y < 12 → I 87 y = nI (T.1.1.1.1 y) := fun y hy => (hT.1 y hy).1
  have s3 := hI.1.1.1
  rw [bB_add_0, hR8, zrs, zob (xp_o hp), Pla_dev_e hC, zci, bB_add_8]
  unfold pAdd
  by_cases hi : inN v P.1.1 = true
  · obtain ⟨x, hx, rfl⟩ := (inN_iff (by omega)).mp hi
    rw [nI_clamp (by omega), hi, if_neg (by decide), zidx_n (by omega) (by decide), hst x (by omega)]
    have hs := s3 x
    by_cases e0 : T.1.1.1.1 x = 0
    · rw [if_pos (by rw [e0]; rfl), hR8, zrs, zob (xp_o hp), xp_F6 hp, zrs, zar (xp_a4 hp), zidx_n (by omega) (by decide), (hC.2.2.2.2.1 x hx).1]
      have go : ∃ J, zcV (EV ρ (d + 29) 159 0 [.ref 86] [] (mk c R I L)) (fun s5 => EV ρ (d + 30) 196 61 [.ref 0, .int (nI x), zU] [] s5) = some ([.int (nI ((tAdd P T x).1.1.1.1 x))], mk c R J L) ∧ BO P p T (tAdd P T x) R I J := by
        obtain ⟨K, g1, g2, g3, g4, g5, g6⟩ := Ben_begin_e (ρ := ρ) (d := d + 27) (c := c) (L := L) hCI
        have h3 : T.1.1.1.1 x ≠ 3 := by omega
        have hA := CR_st (show x < 12 by omega) (v := 1) (by decide) g2.1.1 g2.1.2.2.2.2
        have hZ : FZ [5] 86 K (z2 K (86 + 1) x (nI 1)) := FZ.rf.zk (by decide) (by decide)
        have hO := IV_open hI h3
        have hCO := CI_to (U := u_st T (va_up T.1.1.1.1 x 1)) g2 hA hZ.1 hO (fun y hy => (st_3 h3 (by decide) y).mp hy) (fun _ _ => rfl) (hZ.2 5 (by decide))
        have h3' : (u_st T (va_up T.1.1.1.1 x 1)).1.1.1.1 x ≠ 3 := by show va_up T.1.1.1.1 x 1 x ≠ 3; rw [va_up_self]; decide
        obtain ⟨M, m1, m2, m3, m4, m5⟩ := Ben_attempt_e (ρ := ρ) (d := d + 24) (c := c) (L := L) hCO hx h3'
        have hBF := (tTry_f hV hO.1 hx h3').2
        have hBF' : BF T (tTry P (u_st T (va_up T.1.1.1.1 x 1)) x) := ⟨hBF.1, hBF.2.1, hBF.2.2.1, fun y hy => hBF.2.2.2 y ((st_3 h3 (by decide) y).mpr hy)⟩
        obtain ⟨J, j1, j2, j3, j4, j5, -⟩ := B_conclude_e (ρ := ρ) (d := d + 22) (c := c) (L := L) (c0 := T.2.2.2.2) m2 hBF'.2.2.1 (bf_c hBF' hc) (by
          have := m5.2
          rw [this, z2_ne (by omega), g6, nI_add, Nat.zero_add])
        rw [g1, zcv, bB_add_61, zidx_n (by omega) (by decide), bB_add_71, m1, zcv, bB_add_79, j1, zcv, bB_add_83, zidx_n (by omega) (by decide), show J 87 x = nI ((tAdd P T x).1.1.1.1 x) from (j2.1.2.2.2.2.1 x (by omega)).1]
        exact ⟨J, rfl, ⟨hR8, j2⟩, g4.1.w.tr (hZ.1.w.tr (m3.1.w.tr j3)), Or.inl j4⟩
      cases ep : P.2.1 x with
      | none =>
        rw [show eO (none : Option Nat) = -1 from rfl, if_pos rfl, if_pos ⟨rfl, e0, fun y hy => by cases hy⟩]
        exact go
      | some y =>
        have hyx := hV.2.2.2.1 x hx y ep
        have hsy := s3 y
        rw [eO_s, if_neg (nI_m1 (by omega)), zidx_n (by omega) (by decide), hst y (by omega)]
        by_cases ey : T.1.1.1.1 y = 0
        · rw [if_pos (by rw [ey]; rfl), if_neg (fun z => z.2.2 y rfl ey)]
          exact ⟨I, rfl, BO.no hX⟩
        · rw [if_neg (by rw [nn1 (by omega)]; exact ey), if_pos ⟨rfl, e0, fun k hk => by cases hk; exact ey⟩]
          exact go
    · rw [if_neg (by rw [nn1 (by omega)]; exact e0), if_neg (fun z => e0 z.2.1)]
      exact ⟨I, rfl, BO.no hX⟩
  · rw [Bool.eq_false_iff.mpr hi, if_pos (by decide), if_neg (fun z => by cases z.1)]
    exact ⟨I, rfl, BO.no hX⟩
theorem B_remove_e (h : BX P p T R I) (hc : T.2.2.2.2 + 24 < 2 ^ 30) (v : Int32) : ∃ J, EV ρ (d + 30) 197 0 [.ref 0, .int v, zU] [] (mk c R I L) = some ([.int (pRemv P T v).1], mk c R J L) ∧ BO P p T (pRemv P T v).2 R I J := by
  have hX := h
  obtain ⟨hR8, hCI⟩ := h
  have hV := hCI.1.2.1
  have hC := hCI.1.2.2.2.1
  have hT := hCI.1.2.2.2.2
  have hI := hCI.2.1
  have h12 := hV.1
  have hp := hC.1
  have hst : ∀ y, y < 12 → I 87 y = nI (T.1.1.1.1 y) := fun y hy => (hT.1 y hy).1
  have s3 := hI.1.1.1
  rw [bB_remove_0, hR8, zrs, zob (xp_o hp), Pla_dev_e hC, zci, bB_remove_8]
  unfold pRemv
  by_cases hi : inN v P.1.1 = true
  · obtain ⟨x, hx, rfl⟩ := (inN_iff (by omega)).mp hi
    rw [nI_clamp (by omega), hi, if_neg (by decide), zidx_n (by omega) (by decide), hst x (by omega)]
    have hs := s3 x
    by_cases e0 : T.1.1.1.1 x = 0
    · rw [if_pos (by rw [e0]; rfl), if_neg (fun z => z.2 e0)]
      exact ⟨I, rfl, BO.no hX⟩
    · rw [if_neg (by rw [nn1 (by omega)]; exact e0), if_pos ⟨rfl, e0⟩]
      obtain ⟨K, g1, g2, g3, g4, g5, g6⟩ := Ben_begin_e (ρ := ρ) (d := d + 27) (c := c) (L := L) hCI
      obtain ⟨M, m1, m2, m3, m4⟩ := Ben_takeAway_e (ρ := ρ) (d := d + 11) (c := c) (L := L) g2 g3 hx
      have hcn : (tRemv P T x).1.1.2.2.2.2 = T.2.2.2.2 := (tRem_v hV (List.range P.1.1).reverse ((T, []), 0) (fun y hy => List.mem_range.mp (List.mem_reverse.mp hy)) hI).2
      obtain ⟨J, j1, j2, j3, j4, j5, -⟩ := B_conclude_e (ρ := ρ) (d := d + 22) (c := c) (L := L) (c0 := T.2.2.2.2) m2 (by omega) (by omega) (by rw [m4, g6, hcn, Nat.sub_self])
      rw [g1, zcv, bB_remove_32, m1, zci, bB_remove_40, j1, zcv, bB_remove_45]
      rw [← hcn, tSettle_id] at j2
      exact ⟨J, rfl, ⟨hR8, j2⟩, g4.1.w.tr (m3.1.w.tr j3), Or.inl j4⟩
  · rw [Bool.eq_false_iff.mpr hi, if_pos (by decide), if_neg (fun z => by cases z.1)]
    exact ⟨I, rfl, BO.no hX⟩
theorem B_load_e (h : BX P p T R I) (hc : T.2.2.2.2 + 24 < 2 ^ 30) (v : Int32) : ∃ J, EV ρ (d + 30) 198 0 [.ref 0, .int v] [] (mk c R I L) = some ([.int (pLoad P T v).1], mk c R J L) ∧ BO P p T (pLoad P T v).2 R I J := by
  have hX := h
  obtain ⟨hR8, hCI⟩ := h
  have hV := hCI.1.2.1
  have hC := hCI.1.2.2.2.1
  have hT := hCI.1.2.2.2.2
  have hI := hCI.2.1
  have h8 := hV.2.1
  have hp := hC.1
  rw [bB_load_0, hR8, zrs, zob (xp_o hp), Pla_drv_e hC, zci, bB_load_8]
  unfold pLoad
  by_cases hi : inN v P.1.2.1 = true
  · obtain ⟨x, hx, rfl⟩ := (inN_iff (by omega)).mp hi
    rw [nI_clamp (by omega), hi, if_neg (by decide), Ben_isLoaded_e hCI.1.1 hT (by omega), zci, bB_load_19]
    cases el : bt T.2.2.1.2 x with
    | true =>
      rw [if_neg (by decide), if_neg (fun z => by cases z.2)]
      exact ⟨I, rfl, BO.no hX⟩
    | false =>
      rw [if_pos (by decide), if_pos ⟨rfl, rfl⟩]
      obtain ⟨K, g1, g2, g3, g4, g5, g6⟩ := Ben_begin_e (ρ := ρ) (d := d + 27) (c := c) (L := L) hCI
      obtain ⟨M, m1, m2, m3, m4, m5⟩ := Ben_install_e (ρ := ρ) (d := d + 23) (c := c) (L := L) g2 hx
      have hBF := (tTries_v (p := fun y => (P.2.2.2.2.1 x y).isSome) hV (List.range P.1.1) _ rg_lt (IV_ld (v := T.2.2.1.2 ||| (nI 1 <<< (nI x &&& 31))) hI)).2
      have hcn := hBF.2.1
      have hcl := hBF.2.2.1
      obtain ⟨J, j1, j2, j3, j4, j5, -⟩ := B_conclude_e (ρ := ρ) (d := d + 22) (c := c) (L := L) (c0 := T.2.2.2.2) m2 hcl (by
        have e1 : (u_ld T (T.2.2.1.2 ||| (nI 1 <<< (nI x &&& 31)))).2.2.2.2 = T.2.2.2.2 := rfl
        have e2 : (u_ld T (T.2.2.1.2 ||| (nI 1 <<< (nI x &&& 31)))).1.2.2.1 = T.1.2.2.1 := rfl
        rw [e1, e2] at hcn
        omega) (m5.at (Nat.le_refl _) (by rw [g6, Nat.sub_self]))
      rw [g1, zcv, bB_load_31, m1, zcv, bB_load_39, j1, zcv, bB_load_43, j5]
      exact ⟨J, rfl, ⟨hR8, j2⟩, g4.1.w.tr (m3.1.w.tr j3), Or.inl j4⟩
  · rw [Bool.eq_false_iff.mpr hi, if_pos (by decide), if_neg (fun z => by cases z.1)]
    exact ⟨I, rfl, BO.no hX⟩
theorem B_unload_e (h : BX P p T R I) (hc : T.2.2.2.2 + 24 < 2 ^ 30) (v : Int32) : ∃ J, EV ρ (d + 30) 199 0 [.ref 0, .int v] [] (mk c R I L) = some ([.int (pUnl P T v).1], mk c R J L) ∧ BO P p T (pUnl P T v).2 R I J := by
  have hX := h
  obtain ⟨hR8, hCI⟩ := h
  have hV := hCI.1.2.1
  have hC := hCI.1.2.2.2.1
  have hT := hCI.1.2.2.2.2
  have hI := hCI.2.1
  have h8 := hV.2.1
  have hp := hC.1
  rw [bB_unload_0, hR8, zrs, zob (xp_o hp), Pla_drv_e hC, zci, bB_unload_8]
  unfold pUnl
  by_cases hi : inN v P.1.2.1 = true
  · obtain ⟨x, hx, rfl⟩ := (inN_iff (by omega)).mp hi
    rw [nI_clamp (by omega), hi, if_neg (by decide), Ben_isLoaded_e hCI.1.1 hT (by omega), zci, bB_unload_19]
    cases el : bt T.2.2.1.2 x with
    | false =>
      rw [if_pos (by decide), if_neg (fun z => by cases z.2)]
      exact ⟨I, rfl, BO.no hX⟩
    | true =>
      rw [if_neg (by decide), if_pos ⟨rfl, rfl⟩]
      obtain ⟨K, g1, g2, g3, g4, g5, g6⟩ := Ben_begin_e (ρ := ρ) (d := d + 27) (c := c) (L := L) hCI
      obtain ⟨M, m1, m2, m3, m4, m5⟩ := Ben_withdraw_e (ρ := ρ) (d := d + 11) (c := c) (L := L) g2 g3 hx
      have hcn : (tUnl P T x).1.2.2.2.2 = T.2.2.2.2 := (tWd_v hV 12 (u_ld T (T.2.2.1.2 &&& ((nI 1 <<< (nI x &&& 31)) ^^^ (-1))), []) (IV_ld hI)).2.1
      obtain ⟨J, j1, j2, j3, j4, j5, j6, j7⟩ := B_conclude_e (ρ := ρ) (d := d + 22) (c := c) (L := L) (c0 := T.2.2.2.2) m2 (by omega) (by omega) (by rw [m5, g6, hcn, Nat.sub_self])
      rw [g1, zcv, bB_unload_31, m1, zcv, bB_unload_39, j1, zcv, bB_unload_43, j6, show M 102 1 = nI (tUnl P T x).2.length from m3.1]
      rw [← hcn, tSettle_id] at j2
      exact ⟨J, rfl, ⟨hR8, j2⟩, g4.1.w.tr (m4.1.w.tr j3), Or.inl j4⟩
  · rw [Bool.eq_false_iff.mpr hi, if_pos (by decide), if_neg (fun z => by cases z.1)]
    exact ⟨I, rfl, BO.no hX⟩
theorem B_unbind_e (h : BX P p T R I) (hc : T.2.2.2.2 + 24 < 2 ^ 30) (v : Int32) : ∃ J, EV ρ (d + 30) 200 0 [.ref 0, .int v] [] (mk c R I L) = some ([.int (pUnb P T v).1], mk c R J L) ∧ BO P p T (pUnb P T v).2 R I J := by
  have hX := h
  obtain ⟨hR8, hCI⟩ := h
  have hV := hCI.1.2.1
  have hC := hCI.1.2.2.2.1
  have hT := hCI.1.2.2.2.2
  have hI := hCI.2.1
  have h12 := hV.1
  have hp := hC.1
  have hst : ∀ y, y < 12 → I 87 y = nI (T.1.1.1.1 y) := fun y hy => (hT.1 y hy).1
  rw [bB_unbind_0, hR8, zrs, zob (xp_o hp), Pla_dev_e hC, zci, bB_unbind_8]
  unfold pUnb
  by_cases hi : inN v P.1.1 = true
  · obtain ⟨x, hx, rfl⟩ := (inN_iff (by omega)).mp hi
    rw [nI_clamp (by omega), hi, if_neg (by decide), zidx_n (by omega) (by decide), hst x (by omega)]
    have hs := hI.1.1.1 x
    by_cases e0 : T.1.1.1.1 x = 3
    · rw [if_pos (by rw [e0]), if_pos ⟨rfl, e0⟩]
      obtain ⟨A, B, hbd, hn⟩ := bnd_at hV hI.1.1 hx e0
      obtain ⟨k0, k1, k2, k3, k8, k9, k10, k11, k12, k13, k14⟩ := tLet_v (W := (T, [])) hV hI hbd hn
      obtain ⟨K, g1, g2, g3, g4, g5, g6⟩ := Ben_begin_e (ρ := ρ) (d := d + 27) (c := c) (L := L) hCI
      obtain ⟨M, m1, m2, m3, m4, m5⟩ := Ben_letGo_e (ρ := ρ) (d := d + 12) (c := c) (L := L) g2 hx e0 g3 (by
        have := bnd_12 hV hI.1.1
        show 0 + T.1.2.2.1.length ≤ 12
        omega)
      obtain ⟨N, n1, n2, n3, n4⟩ := Ben_idle_i (ρ := ρ) (d := d + 27) (c := c) (L := L) m2 hx (by rw [k13]; decide)
      have hcn : (tIdle (tLet P 13 (T, []) x).1 x).2.2.2.2 = T.2.2.2.2 := k8
      obtain ⟨J, j1, j2, j3, j4, j5, j6, j7⟩ := B_conclude_e (ρ := ρ) (d := d + 22) (c := c) (L := L) (c0 := T.2.2.2.2) n2 (by omega) (by omega) (by rw [n4, m5, g6, hcn, Nat.sub_self])
      rw [g1, zcv, bB_unbind_33, m1, zcv, bB_unbind_42, n1, zcv, bB_unbind_50, j1, zcv, bB_unbind_54, j6, show N 102 = M 102 from n3.2 16 (by decide), show M 102 1 = nI (tLet P 13 (T, []) x).2.length from m3.1]
      rw [← hcn, tSettle_id] at j2
      exact ⟨J, rfl, ⟨hR8, j2⟩, g4.1.w.tr (m4.1.w.tr (n3.1.w.tr j3)), Or.inl j4⟩
    · rw [if_neg (by rw [nI_eq (by omega) (by decide)]; exact e0), if_neg (fun z => e0 z.2)]
      exact ⟨I, rfl, BO.no hX⟩
  · rw [Bool.eq_false_iff.mpr hi, if_pos (by decide), if_neg (fun z => by cases z.1)]
    exact ⟨I, rfl, BO.no hX⟩
end CPUB
