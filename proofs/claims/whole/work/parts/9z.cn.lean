-- HOW MANY STAMPS A CALL ADDS
section CNP
variable {P : PT} {T : TT}
theorem CG_sy {U : TT} (h : CG T U) : CG T (tSync P U) := by
  have hs := SF_sync P U
  unfold CG at h ⊢
  rw [hs.2.2.2.2.2.2.2.2.2.2.2.2.2, hs.2.2.2.2.2.1]
  exact h
theorem CG_bf {U : TT} (h : BF T U) : CG T U := ⟨h.2.1, h.2.2.1⟩
theorem cn_e {U V : TT} (h : V.2.2.2.2 = U.2.2.2.2) (h2 : U.2.2.2.2 ≤ T.2.2.2.2 + 12) : (tSync P V).2.2.2.2 ≤ T.2.2.2.2 + 12 := by
  rw [(SF_sync P V).2.2.2.2.2.2.2.2.2.2.2.2.2, h]
  exact h2
theorem pAdd_cn (hV : PV P) (hI : IV P T) (v : Int32) (hU : IV P (pAdd P T v).2) : (pAdd P T v).2.2.2.2.2 ≤ T.2.2.2.2 + 12 := by
  unfold pAdd at hU ⊢
  split at hU
  · rename_i e
    rw [if_pos e]
    obtain ⟨x, hx, rfl⟩ := (inN_iff (by have := hV.1; omega)).mp e.1
    have h12 := hV.1
    rw [nI_clamp (by omega)] at e hU ⊢
    have h3 : T.1.1.1.1 x ≠ 3 := by omega
    have hO := IV_open hI h3
    have h3' : (u_st T (va_up T.1.1.1.1 x 1)).1.1.1.1 x ≠ 3 := by show va_up T.1.1.1.1 x 1 x ≠ 3; rw [va_up_self]; decide
    obtain ⟨a1, a2⟩ := tTry_f hV hO.1 hx h3'
    obtain ⟨b1, b2⟩ := tSettle_f hV 13 T.2.2.2.2 _ a1
    refine CG_cn hV hU.1.1 (CG_sy (CG.tr (U := tTry P (u_st T (va_up T.1.1.1.1 x 1)) x) ?_ (CG_bf b2)))
    exact ⟨a2.2.1, a2.2.2.1⟩
  · rename_i e
    rw [if_neg e]
    exact Nat.le_add_right _ _
theorem pLoad_cn (hV : PV P) (hI : IV P T) (v : Int32) : (pLoad P T v).2.2.2.2.2 ≤ T.2.2.2.2 + 12 := by
  unfold pLoad
  split
  · obtain ⟨a1, a2⟩ := tLoad_v (v := v.toNatClampNeg) hV hI
    exact CG_cn hV a1.1.1 a2
  · exact Nat.le_add_right _ _
theorem pResc_cn (hV : PV P) (hI : IV P T) : (pResc P T).2.2.2.2.2 ≤ T.2.2.2.2 + 12 := by
  unfold pResc tResc
  obtain ⟨f1, f2⟩ := tTries_v (p := fun _ => true) hV (List.range P.1.1) _ rg_lt hI
  obtain ⟨-, g2⟩ := tSettle_f hV 13 T.2.2.2.2 _ f1.1
  have g1 := tSettle_v hV 13 T.2.2.2.2 _ f1
  exact CG_cn hV (IV_sync g1).1.1 (CG_sy (CG.tr (CG_bf f2) (CG_bf g2)))
theorem pBind_cn (hV : PV P) (hI : IV P T) (v w : Int32) : (pBind P T v w).2.2.2.2.2 ≤ T.2.2.2.2 + 12 := by
  unfold pBind
  split
  · rename_i e
    have h12 := hV.1
    have h8 := hV.2.1
    obtain ⟨x, hx, rfl⟩ := (inN_iff (by omega)).mp e.1.1
    obtain ⟨y, hy, rfl⟩ := (inN_iff (by omega)).mp e.2.1
    rw [nI_clamp (by omega), nI_clamp (by omega)] at *
    have h3 := opn_3 e.1.2
    have hE := tEnd1_v hV hI hx hy h3
    obtain ⟨e1, e2, e3⟩ := tEnd1_f hV hI.1 hx hy h3
    have hB : IV P (tBnd1 P T x y) ∧ CG T (tBnd1 P T x y) := by
      unfold tBnd1
      cases ee : (tEnd1 P T x y).1 with
      | true => exact ⟨hE, CG_bf e2⟩
      | false => exact ⟨IV_idle hE (e3 ee), CG.tr (CG_bf e2) (CG_bf (BF_idle (e3 ee)))⟩
    obtain ⟨-, g2⟩ := tSettle_f hV 13 T.2.2.2.2 _ hB.1.1
    have g1 := tSettle_v hV 13 T.2.2.2.2 _ hB.1
    exact CG_cn hV (IV_sync g1).1.1 (CG_sy (CG.tr hB.2 (CG_bf g2)))
  · exact Nat.le_add_right _ _
theorem pUnb_cn (hV : PV P) (hI : IV P T) (v : Int32) : (pUnb P T v).2.2.2.2.2 ≤ T.2.2.2.2 + 12 := by
  unfold pUnb
  split
  · rename_i e
    obtain ⟨x, hx, rfl⟩ := (inN_iff (by have := hV.1; omega)).mp e.1
    have h12 := hV.1
    rw [nI_clamp (by omega)] at e ⊢
    obtain ⟨A, B, hb, hn⟩ := bnd_at hV hI.1.1 hx e.2
    obtain ⟨k0, k1, k2, k3, k8, k9⟩ := tLet_v (W := (T, [])) hV hI hb hn
    exact cn_e (U := T) k8 (Nat.le_add_right _ _)
  · exact Nat.le_add_right _ _
theorem pRemv_cn (hV : PV P) (hI : IV P T) (v : Int32) : (pRemv P T v).2.2.2.2.2 ≤ T.2.2.2.2 + 12 := by
  unfold pRemv
  split
  · exact cn_e (U := T) (tRem_v (x := v.toNatClampNeg) hV (List.range P.1.1).reverse ((T, []), 0) (fun y hy => rg_lt y (List.mem_reverse.mp hy)) hI).2 (Nat.le_add_right _ _)
  · exact Nat.le_add_right _ _
theorem pUnl_cn (hV : PV P) (hI : IV P T) (v : Int32) : (pUnl P T v).2.2.2.2.2 ≤ T.2.2.2.2 + 12 := by
  unfold pUnl
  split
  · exact cn_e (U := T) (tWd_v (v := v.toNatClampNeg) hV 12 (u_ld T (T.2.2.1.2 &&& ((nI 1 <<< (nI v.toNatClampNeg &&& 31)) ^^^ (-1))), []) (IV_ld hI)).2.1 (Nat.le_add_right _ _)
  · exact Nat.le_add_right _ _
theorem pForg_cn (v : Int32) : (pForg P T v).2.2.2.2.2 ≤ T.2.2.2.2 + 12 := by
  unfold pForg
  split
  · exact Nat.le_add_right _ _
  · exact Nat.le_add_right _ _
end CNP
