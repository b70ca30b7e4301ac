-- THE COMPONENT: bind, rescan, forget; bits counted
/-- the bits of a number, as the library counts them -/
def bcF (v0 : Int32) : Int32 := ((((((((v0 - ((((v0).toUInt32 >>> ((nI 1).toUInt32 &&& Int32.toUInt32 31)).toInt32) &&& (nI 1431655765))) &&& (nI 858993459)) + ((((v0 - ((((v0).toUInt32 >>> ((nI 1).toUInt32 &&& Int32.toUInt32 31)).toInt32) &&& (nI 1431655765))).toUInt32 >>> ((nI 2).toUInt32 &&& Int32.toUInt32 31)).toInt32) &&& (nI 858993459))) + (((((v0 - ((((v0).toUInt32 >>> ((nI 1).toUInt32 &&& Int32.toUInt32 31)).toInt32) &&& (nI 1431655765))) &&& (nI 858993459)) + ((((v0 - ((((v0).toUInt32 >>> ((nI 1).toUInt32 &&& Int32.toUInt32 31)).toInt32) &&& (nI 1431655765))).toUInt32 >>> ((nI 2).toUInt32 &&& Int32.toUInt32 31)).toInt32) &&& (nI 858993459))).toUInt32 >>> ((nI 4).toUInt32 &&& Int32.toUInt32 31)).toInt32)) &&& (nI 252645135)) + (((((((v0 - ((((v0).toUInt32 >>> ((nI 1).toUInt32 &&& Int32.toUInt32 31)).toInt32) &&& (nI 1431655765))) &&& (nI 858993459)) + ((((v0 - ((((v0).toUInt32 >>> ((nI 1).toUInt32 &&& Int32.toUInt32 31)).toInt32) &&& (nI 1431655765))).toUInt32 >>> ((nI 2).toUInt32 &&& Int32.toUInt32 31)).toInt32) &&& (nI 858993459))) + (((((v0 - ((((v0).toUInt32 >>> ((nI 1).toUInt32 &&& Int32.toUInt32 31)).toInt32) &&& (nI 1431655765))) &&& (nI 858993459)) + ((((v0 - ((((v0).toUInt32 >>> ((nI 1).toUInt32 &&& Int32.toUInt32 31)).toInt32) &&& (nI 1431655765))).toUInt32 >>> ((nI 2).toUInt32 &&& Int32.toUInt32 31)).toInt32) &&& (nI 858993459))).toUInt32 >>> ((nI 4).toUInt32 &&& Int32.toUInt32 31)).toInt32)) &&& (nI 252645135)).toUInt32 >>> ((nI 8).toUInt32 &&& Int32.toUInt32 31)).toInt32)) + ((((((((v0 - ((((v0).toUInt32 >>> ((nI 1).toUInt32 &&& Int32.toUInt32 31)).toInt32) &&& (nI 1431655765))) &&& (nI 858993459)) + ((((v0 - ((((v0).toUInt32 >>> ((nI 1).toUInt32 &&& Int32.toUInt32 31)).toInt32) &&& (nI 1431655765))).toUInt32 >>> ((nI 2).toUInt32 &&& Int32.toUInt32 31)).toInt32) &&& (nI 858993459))) + (((((v0 - ((((v0).toUInt32 >>> ((nI 1).toUInt32 &&& Int32.toUInt32 31)).toInt32) &&& (nI 1431655765))) &&& (nI 858993459)) + ((((v0 - ((((v0).toUInt32 >>> ((nI 1).toUInt32 &&& Int32.toUInt32 31)).toInt32) &&& (nI 1431655765))).toUInt32 >>> ((nI 2).toUInt32 &&& Int32.toUInt32 31)).toInt32) &&& (nI 858993459))).toUInt32 >>> ((nI 4).toUInt32 &&& Int32.toUInt32 31)).toInt32)) &&& (nI 252645135)) + (((((((v0 - ((((v0).toUInt32 >>> ((nI 1).toUInt32 &&& Int32.toUInt32 31)).toInt32) &&& (nI 1431655765))) &&& (nI 858993459)) + ((((v0 - ((((v0).toUInt32 >>> ((nI 1).toUInt32 &&& Int32.toUInt32 31)).toInt32) &&& (nI 1431655765))).toUInt32 >>> ((nI 2).toUInt32 &&& Int32.toUInt32 31)).toInt32) &&& (nI 858993459))) + (((((v0 - ((((v0).toUInt32 >>> ((nI 1).toUInt32 &&& Int32.toUInt32 31)).toInt32) &&& (nI 1431655765))) &&& (nI 858993459)) + ((((v0 - ((((v0).toUInt32 >>> ((nI 1).toUInt32 &&& Int32.toUInt32 31)).toInt32) &&& (nI 1431655765))).toUInt32 >>> ((nI 2).toUInt32 &&& Int32.toUInt32 31)).toInt32) &&& (nI 858993459))).toUInt32 >>> ((nI 4).toUInt32 &&& Int32.toUInt32 31)).toInt32)) &&& (nI 252645135)).toUInt32 >>> ((nI 8).toUInt32 &&& Int32.toUInt32 31)).toInt32)).toUInt32 >>> ((nI 16).toUInt32 &&& Int32.toUInt32 31)).toInt32)) &&& (nI 63))
theorem bcF_k : ∀ a, a < 64 → ∀ b, b < 64 → bcF (nI (64 * a + b)) = nI (cb (nI (64 * a + b)) 12) := by decide +kernel
theorem nI_bv (S : Int32) : S = nI S.toBitVec.toNat := Int32.toBitVec_inj.mp (by
  show S.toBitVec = BitVec.ofNat 32 S.toBitVec.toNat
  simp)
theorem bcF_e {S : Int32} (h : ∀ j, bt S j = true → j < 12) : bcF S = nI (cb S 12) := by
  have hk : S.toBitVec.toNat < 2 ^ 12 := Nat.lt_pow_two_of_testBit _ (fun i hi => by
    cases e : S.toBitVec.toNat.testBit i with
    | false => rfl
    | true =>
      have := h i e
      omega)
  have e := nI_bv S
  generalize S.toBitVec.toNat = k at hk e
  subst e
  have := bcF_k (k / 64) (by omega) (k % 64) (by omega)
  rw [show 64 * (k / 64) + k % 64 = k from by omega] at this
  exact this
section CPUB2
variable {ρ : Nat × (Nat → Int32)} {d : Nat} {c : Nat × Nat} {R : Nat → Nat → Option Nat} {I J : Nat → Nat → Int32} {L : Nat → Nat → Int64} {P : PT} {p : Nat} {T : TT}
theorem Int_bitCount_e {S : Int32} (h : ∀ j, bt S j = true → j < 12) : EV ρ (d + 1) 231 0 [.int S] [] (mk c R I L) = some ([.int (nI (cb S 12))], mk c R I L) := by
  rw [bInt_bitCount_0, ← bcF_e h]
  rfl
theorem B_wait (h : BX P p T R I) (v : Int32) : EV ρ (d + 2) 218 0 [.ref 0, .int v] [] (mk c R I L) = some ([.int (bo (inN v P.1.1 && opn T v.toNatClampNeg))], mk c R I L) := by
  obtain ⟨hR8, hCI⟩ := h
  have hC := hCI.1.2.2.2.1
  have hT := hCI.1.2.2.2.2
  have h12 := hCI.1.2.1.1
  rw [bB_isWaiting_0, hR8, zrs, zob (xp_o hC.1), Pla_dev_e hC, zci, bB_isWaiting_8]
  by_cases hi : inN v P.1.1 = true
  · obtain ⟨x, hx, rfl⟩ := (inN_iff (by omega)).mp hi
    rw [nI_clamp (by omega), hi, if_neg (by decide), zidx_n (by omega) (by decide), show I 87 x = nI (T.1.1.1.1 x) from (hT.1 x (by omega)).1, B_wait_e (hCI.2.1.1.1.1 x), zci, bB_isWaiting_23]
    show (if bo (opn T x) = 0 then _ else _) = _
    cases opn T x with
    | true => rw [if_neg (by decide)]; rfl
    | false => rw [if_pos (by decide)]; rfl
  · rw [Bool.eq_false_iff.mpr hi, if_pos (by decide)]
    rfl
theorem B_bind_e (h : BX P p T R I) (hc : T.2.2.2.2 + 24 < 2 ^ 30) (v w : Int32) : ∃ J, EV ρ (d + 30) 201 0 [.ref 0, .int v, .int w] [] (mk c R I L) = some ([.int (pBind P T v w).1], mk c R J L) ∧ BO P p T (pBind P T v w).2 R I J := by
  have hX := h
  obtain ⟨hR8, hCI⟩ := h
  have hV := hCI.1.2.1
  have hC := hCI.1.2.2.2.1
  have hT := hCI.1.2.2.2.2
  have hI := hCI.2.1
  have h12 := hV.1
  have h8 := hV.2.1
  have hp := hC.1
  rw [bB_bind_0, B_wait hX, zci, bB_bind_5]
  unfold pBind
  by_cases hi : inN v P.1.1 = true ∧ opn T v.toNatClampNeg = true
  · rw [show (inN v P.1.1 && opn T v.toNatClampNeg) = true from by rw [hi.1, hi.2]; rfl, if_neg (by decide), hR8, zrs, zob (xp_o hp), Pla_drv_e hC, zci, bB_bind_16]
    obtain ⟨hi1, hi2⟩ := hi
    obtain ⟨x, hx, rfl⟩ := (inN_iff (by omega)).mp hi1
    rw [nI_clamp (by omega)] at hi2 ⊢
    have h3 := opn_3 hi2
    by_cases hw : inN w P.1.2.1 = true
    · obtain ⟨y, hy, rfl⟩ := (inN_iff (by omega)).mp hw
      rw [nI_clamp (by omega), hw, if_neg (by decide), Ben_isLoaded_e hCI.1.1 hT (by omega), zci, bB_bind_27]
      cases el : bt T.2.2.1.2 y with
      | false =>
        rw [if_pos (by decide), if_neg (fun z => by cases z.2.2)]
        exact ⟨I, rfl, BO.no hX⟩
      | true =>
        rw [if_neg (by decide), if_pos ⟨⟨hi1, hi2⟩, rfl, rfl⟩]
        obtain ⟨K, g1, g2, g3, g4, g5, g6⟩ := Ben_begin_e (ρ := ρ) (d := d + 27) (c := c) (L := L) hCI
        obtain ⟨M, m1, m2, m3, m4, m5⟩ := Ben_ends_i (ρ := ρ) (d := d + 25) (c := c) (L := L) g2 hx hy h3
        obtain ⟨q1, q2, q3⟩ := tEnd1_f hV hI.1 hx hy h3
        have key : ∃ N, EV ρ (d + 30) 201 48 [.ref 0, .int (nI x), zU] [.int (bo (tEnd1 P T x y).1)] (mk c R M L) = EV ρ (d + 30) 201 59 [.ref 0, .int (nI x), zU] [] (mk c R N L) ∧ CI P 86 p (tBnd1 P T x y) R N ∧ FW M N ∧ KN 86 K N T (tBnd1 P T x y) ∧ BF T (tBnd1 P T x y) := by
          unfold tBnd1
          rw [bB_bind_48]
          cases ee : (tEnd1 P T x y).1 with
          | true =>
            rw [if_neg (by decide), if_pos rfl]
            exact ⟨M, rfl, m2, FW.rf, m5, q2⟩
          | false =>
            obtain ⟨N, n1, n2, n3, n4⟩ := Ben_idle_i (ρ := ρ) (d := d + 27) (c := c) (L := L) m2 hx (q3 ee)
            rw [if_pos (by decide), if_neg (by decide), n1, zcv]
            exact ⟨N, rfl, n2, n3.1.w, ⟨m5.1, by rw [n4]; exact m5.2⟩, q2.tr (BF_idle (q3 ee))⟩
        obtain ⟨N, n1, n2, n3, n4, n5⟩ := key
        obtain ⟨J, j1, j2, j3, j4, j5, -⟩ := B_conclude_e (ρ := ρ) (d := d + 22) (c := c) (L := L) (c0 := T.2.2.2.2) n2 n4.1 (bf_c n5 hc) (n4.at (Nat.le_refl _) (by rw [g6, Nat.sub_self]))
        rw [g1, zcv, bB_bind_39, m1, zci, n1, bB_bind_59, j1, zcv, bB_bind_63, zidx_n (by omega) (by decide), show J 87 x = nI ((tBind P T x y).1.1.1.1 x) from (j2.1.2.2.2.2.1 x (by omega)).1]
        exact ⟨J, rfl, ⟨hR8, j2⟩, g4.1.w.tr (m3.1.w.tr (n3.tr j3)), Or.inl j4⟩
    · rw [Bool.eq_false_iff.mpr hw, if_pos (by decide), if_neg (fun z => by cases z.2.1)]
      exact ⟨I, rfl, BO.no hX⟩
  · rw [show (inN v P.1.1 && opn T v.toNatClampNeg) = false from by
      cases e1 : inN v P.1.1 with
      | false => rfl
      | true =>
        cases e2 : opn T v.toNatClampNeg with
        | false => rfl
        | true => exact absurd ⟨e1, e2⟩ hi, if_pos (by decide), if_neg (fun z => hi z.1)]
    exact ⟨I, rfl, BO.no hX⟩
theorem B_rescan_l (hR8 : R 0 8 = some p) : ∀ (n k : Nat) (T : TT) (I : Nat → Nat → Int32), k + n = P.1.1 → CI P 86 p T R I → ∃ J, EV ρ (d + 30) 202 9 [.ref 0, .int (nI k)] [] (mk c R I L) = EV ρ (d + 30) 202 9 [.ref 0, .int (nI P.1.1)] [] (mk c R J L) ∧ CI P 86 p (tTries P (fun _ => true) ((List.range P.1.1).drop k) T) R J ∧ FW I J ∧ KN 86 I J T (tTries P (fun _ => true) ((List.range P.1.1).drop k) T) := by
  intro n
  induction n with
  | zero =>
    intro k T I hk h
    rw [rg_nil (by omega), show k = P.1.1 from by omega]
    exact ⟨I, rfl, h, FW.rf, KN.rf⟩
  | succ n ih =>
    intro k T I hk h
    have hV := h.1.2.1
    have h12 := hV.1
    have hC := h.1.2.2.2.1
    have hkd : k < P.1.1 := by omega
    rw [rg_cons hkd, bB_rescan_9, hR8, zrs, zob (xp_o hC.1), hC.2.1, if_neg (nI_ge hkd (by omega)), B_wait ⟨hR8, h⟩, zci, bB_rescan_25, inN_n hkd (by omega), nI_clamp (by omega), Bool.true_and]
    unfold tTries
    rw [Bool.and_true]
    cases eo : opn T k with
    | false =>
      rw [if_pos (by decide), if_neg (by decide), bB_rescan_36, nI_add]
      exact ih (k + 1) T I (by omega) h
    | true =>
      obtain ⟨K, g1, g2, g3, g4, g5⟩ := Ben_attempt_e (ρ := ρ) (d := d + 24) (c := c) (L := L) h hkd (opn_3 eo)
      rw [if_neg (by decide), if_pos rfl, g1, zcv, bB_rescan_36, nI_add]
      obtain ⟨J, j1, j2, j3, j4⟩ := ih (k + 1) _ K (by omega) g2
      exact ⟨J, j1, j2, g3.1.w.tr j3, g5.tr j4⟩
theorem B_rescan_e (h : BX P p T R I) (hc : T.2.2.2.2 + 24 < 2 ^ 30) : ∃ J, EV ρ (d + 30) 202 0 [.ref 0, zU] [] (mk c R I L) = some ([.int (pResc P T).1], mk c R J L) ∧ BO P p T (pResc P T).2 R I J := by
  obtain ⟨hR8, hCI⟩ := h
  have hV := hCI.1.2.1
  have h12 := hV.1
  have hI := hCI.2.1
  obtain ⟨K, g1, g2, g3, g4, g5, g6⟩ := Ben_begin_e (ρ := ρ) (d := d + 27) (c := c) (L := L) hCI
  obtain ⟨M, m1, m2, m3, m4⟩ := B_rescan_l (ρ := ρ) (d := d) (c := c) (L := L) hR8 P.1.1 0 T K (by omega) g2
  rw [List.drop_zero] at m2 m4
  have hBF := (tTries_v (p := fun _ => true) hV (List.range P.1.1) T rg_lt hI).2
  obtain ⟨J, j1, j2, j3, j4, j5, -⟩ := B_conclude_e (ρ := ρ) (d := d + 22) (c := c) (L := L) (c0 := T.2.2.2.2) m2 m4.1 (bf_c hBF hc) (m4.at (Nat.le_refl _) (by rw [g6, Nat.sub_self]))
  have hC := m2.1.2.2.2.1
  rw [bB_rescan_0, g1, zcv, bB_rescan_7, m1, bB_rescan_9, hR8, zrs, zob (xp_o hC.1), hC.2.1, if_pos (nI_le (Nat.le_refl _) (by omega)), j1, zcv, bB_rescan_46, j5]
  exact ⟨J, rfl, ⟨hR8, j2⟩, g4.1.w.tr (m3.tr j3), Or.inl j4⟩
theorem B_forget_e (h : BX P p T R I) (v : Int32) : ∃ J, EV ρ (d + 30) 203 0 [.ref 0, .int v, zU, zU] [] (mk c R I L) = some ([.int (pForg P T v).1], mk c R J L) ∧ BO P p T (pForg P T v).2 R I J := by
  have hX := h
  obtain ⟨hR8, hCI⟩ := h
  have hV := hCI.1.2.1
  have hC := hCI.1.2.2.2.1
  have hT := hCI.1.2.2.2.2
  have hI := hCI.2.1
  have h12 := hV.1
  have hp := hC.1
  rw [bB_forget_0, hR8, zrs, zob (xp_o hp), Pla_dev_e hC, zci, bB_forget_8]
  unfold pForg
  by_cases hi : inN v P.1.1 = true
  · obtain ⟨x, hx, rfl⟩ := (inN_iff (by omega)).mp hi
    obtain ⟨-, -, q3, q4⟩ := hT.2.1 x (by omega)
    have q3 : I 93 x = T.1.2.2.2 x := q3
    have q4 : I 92 x = T.2.1.1.1 x := q4
    have hl := hI.1.1.2.2.2.2.2.1 x
    rw [nI_clamp (by omega), hi, if_neg (by decide), zidx_n (by omega) (by decide), zidx_n (by omega) (by decide), zidx_n (by omega) (by decide), q3, q4, Int_bitCount_e hl, zci, bB_forget_45, Int_bitCount_e (fun j hj => by rw [b_and, Bool.and_eq_true] at hj; exact hl j hj.1), zci, bB_forget_49, zidx_n (by omega) (by decide), bB_forget_61, bB_forget_66, if_pos rfl]
    have hZ : FZ [5, 12, 13, 16, 17] 86 I (z2 I (86 + 7) x (T.1.2.2.2 x &&& T.2.1.1.1 x)) := FZ.rf.zk (by decide) (by decide)
    have hA := CR_lk (show x < 12 by omega) (T.1.2.2.2 x &&& T.2.1.1.1 x) hCI.1.1 hT
    have hIF : IV P (tForg T x) := by
      refine IV_st hI (TI_to hI.1 ?_ rfl rfl (fun _ => Iff.rfl)) rfl rfl (fun _ => Iff.rfl) rfl rfl rfl
      obtain ⟨t1, t2, t3, t4, t5, t6, t7, t8, t9⟩ := hI.1.1
      refine ⟨t1, t2, t3, t4, t5, fun y j hj => ?_, t7, t8, t9⟩
      have hj : bt (va_up T.1.2.2.2 x (T.1.2.2.2 x &&& T.2.1.1.1 x) y) j = true := hj
      unfold va_up at hj
      split at hj
      · rw [b_and, Bool.and_eq_true] at hj
        exact t6 x j hj.1
      · exact t6 y j hj
    exact ⟨_, rfl, ⟨hR8, CI_07 (CI_to (U := tForg T x) hCI hA hZ.1 hIF (fun _ z => z) (fun _ _ => rfl) (hZ.2 5 (by decide))) _⟩, hZ.1.w.tr (FW_07 _), Or.inl (z2_at _ _ _ _)⟩
  · rw [Bool.eq_false_iff.mpr hi, if_pos (by decide), if_neg (by decide)]
    exact ⟨I, rfl, BO.no hX⟩
end CPUB2
