-- CALLS THAT CHANGE WHAT STANDS, in the reference (add, load, bind, rescan)
/-- what the reference's calls leave as it is -/
def FT (I J : Nat → Nat → Int32) : Prop := ∀ q j, ¬ (q = 274 ∨ q = 275 ∨ q = 276 ∨ q = 277 ∨ q = 278 ∨ q = 279 ∨ (q = 257 ∧ (j = 2 ∨ j = 30 ∨ j = 31 ∨ j = 33))) → J q j = I q j
noncomputable def pAdd (P : PT) (T : TT) (v : Int32) : Int32 × TT := if inN v P.1.1 = true ∧ T.1.1.1.1 v.toNatClampNeg = 0 ∧ (∀ y, P.2.1 v.toNatClampNeg = some y → T.1.1.1.1 y ≠ 0) then (nI ((tAdd P T v.toNatClampNeg).1.1.1.1 v.toNatClampNeg), tAdd P T v.toNatClampNeg) else (-1, T)
noncomputable def pLoad (P : PT) (T : TT) (v : Int32) : Int32 × TT := if inN v P.1.2.1 = true ∧ bt T.2.2.1.2 v.toNatClampNeg = false then (nI ((tLoad P T v.toNatClampNeg).2.2.2.2 - T.2.2.2.2), tLoad P T v.toNatClampNeg) else (-1, T)
noncomputable def pBind (P : PT) (T : TT) (v w : Int32) : Int32 × TT := if (inN v P.1.1 = true ∧ opn T v.toNatClampNeg = true) ∧ (inN w P.1.2.1 = true ∧ bt T.2.2.1.2 w.toNatClampNeg = true) then (nI ((tBind P T v.toNatClampNeg w.toNatClampNeg).1.1.1.1 v.toNatClampNeg), tBind P T v.toNatClampNeg w.toNatClampNeg) else (-1, T)
noncomputable def pResc (P : PT) (T : TT) : Int32 × TT := (nI ((tResc P T).2.2.2.2 - T.2.2.2.2), tResc P T)
section MOPS
variable {ρ : Nat × (Nat → Int32)} {d : Nat} {c : Nat × Nat} {R : Nat → Nat → Option Nat} {I : Nat → Nat → Int32} {L : Nat → Nat → Int64} {P : PT} {sd : Nat} {T : TT}
theorem FT.rf : FT I I := fun _ _ _ => rfl
theorem FT.tr {I J K : Nat → Nat → Int32} (h : FT I J) (h2 : FT J K) : FT I K := fun q j hq => (h2 q j hq).trans (h q j hq)
theorem FX.t {I J : Nat → Nat → Int32} (h : FX I J) : FT I J := fun q j hq => h q j (by omega)
theorem FM.t {I J : Nat → Nat → Int32} (h : FM I J) : FT I J := fun q j hq => h q j (by omega)
theorem FT.z2 {I J : Nat → Nat → Int32} (h : FT I J) {j : Nat} {v : Int32} (hj : j = 2 ∨ j = 30 ∨ j = 31 ∨ j = 33) : FT I (z2 J 257 j v) := fun q k hq => by
  rw [z2a, if_neg (by omega)]
  exact h q k hq
theorem FT.up {I J : Nat → Nat → Int32} (h : FT I J) (s : Nat → Int32) : FT I (va_up J 274 s) := fun q j hq => by
  rw [va_up_ne _ _ (fun e => hq (Or.inl e))]
  exact h q j hq
theorem cn_lt (hV : PV P) {T U : TT} (hT : TV P T) (hU : TV P U) (h : BF T U) (hc : T.2.2.2.2 + 24 < 2 ^ 30) : U.2.2.2.2 + 12 < 2 ^ 30 := by
  have := h.2.1
  have := bnd_12 hV hU
  omega
theorem st_ne0 {x : Nat} (hT : TV P T) (hx : x < 12) (h : MR T (I 274)) : (I 274 x = 0 ↔ T.1.1.1.1 x = 0) := by
  have := hT.1 x
  rw [(h.1 x hx).1, nn1 (by omega)]
/-- passes and synced, behind what a call did -/
theorem M_fin (h : MX P sd T I) (hT : TI P T) {c0 : Nat} (h0 : c0 ≤ T.2.2.2.2) (hc : T.2.2.2.2 + 12 < 2 ^ 30) (hb : I 257 31 = nI (T.2.2.2.2 - c0)) : ∃ J K, EV ρ (d + 29) 58 0 [.ref 257, .int (nI 0), zU, zU, zU] [] (mk c R I L) = some ([], mk c R J L) ∧ EV ρ (d + 29) 62 0 [.ref 257, zU] [] (mk c R J L) = some ([], mk c R K L) ∧ MX P sd (tSync P (tSettle P 13 c0 T)) K ∧ FX I K ∧ K 257 31 = nI ((tSync P (tSettle P 13 c0 T)).2.2.2.2 - c0) := by
  obtain ⟨J, g1, g2, g3, g4⟩ := M_ends_e (ρ := ρ) (d := d + 18) (c := c) (R := R) (L := L) h hT h0 (by omega) hb
  have hS := (tSettle_f h.1 13 c0 T hT).1
  obtain ⟨K, k1, k2, k3, k4⟩ := M_syncs_e (ρ := ρ) (d := d + 25) (c := c) (R := R) (L := L) g2 hS.1
  refine ⟨J, K, g1, k1, k2, g3.tr k3.x, ?_⟩
  rw [k4, (SF_sync P _).2.2.2.2.2.2.2.2.2.2.2.2.2]
  exact g4
theorem M_add_e (h : MX P sd T I) (hT : IV P T) (hc : T.2.2.2.2 + 24 < 2 ^ 30) (v : Int32) : ∃ J, EV ρ (d + 30) 67 0 [.ref 257, .int v] [] (mk c R I L) = some ([.int (pAdd P T v).1], mk c R J L) ∧ MX P sd (pAdd P T v).2 J ∧ FT I J := by
  have hV := h.1
  have h12 := hV.1
  have h1 := MX_z2 (j := 2) (v := nI 0) h (by decide)
  have hF1 : FT I (z2 I 257 2 (nI 0)) := FT.rf.z2 (Or.inl rfl)
  have e1 : z2 I 257 2 (nI 0) 274 = I 274 := z2_ne (by decide)
  rw [bM_add_0, bM_add_5, M_isDevice_e h1.2.1 h12, zci, bM_add_10]
  unfold pAdd
  by_cases hi : inN v P.1.1 = true
  · obtain ⟨x, hx, rfl⟩ := (inN_iff (by omega)).mp hi
    rw [nI_clamp (by omega), hi, if_neg (by decide), nI_add, Nat.zero_add, zidx_n (by omega) (by decide)]
    by_cases e0 : T.1.1.1.1 x = 0
    · rw [if_pos (by rw [e1, st_ne0 hT.1.1 (by omega) h.2.2]; exact e0), M_parentOf_e h1.2.1 hV hx, zci, bM_add_29]
      -- it is tried
      have go : (∀ y, P.2.1 x = some y → T.1.1.1.1 y ≠ 0) → ∃ J, EV ρ (d + 30) 67 54 [.ref 257, .int (nI x)] [] (mk c R (z2 (z2 I 257 2 (nI 0)) 257 31 (nI 0)) L) = some ([.int (nI ((tAdd P T x).1.1.1.1 x))], mk c R J L) ∧ MX P sd (tAdd P T x) J ∧ FT I J := fun _ => by
        have h2 := MX_z2 (j := 31) (v := nI 0) h1 (by decide)
        have hF2 : FT I (z2 (z2 I 257 2 (nI 0)) 257 31 (nI 0)) := hF1.z2 (by omega)
        have e2 : z2 (z2 I 257 2 (nI 0)) 257 31 (nI 0) 274 = I 274 := by rw [z2_ne (by decide)]; exact e1
        have h3 : T.1.1.1.1 x ≠ 3 := by omega
        have e4 : z2 (z2 (z2 I 257 2 (nI 0)) 257 31 (nI 0)) 274 x (nI 1) = va_up (z2 (z2 I 257 2 (nI 0)) 257 31 (nI 0)) 274 (va_up (I 274) x (nI 1)) := by rw [← e2]; rfl
        rw [bM_add_54, nI_add, Nat.zero_add, zidx_n (by omega) (by decide), e4, bM_add_63]
        have h5 : MX P sd (u_st T (va_up T.1.1.1.1 x 1)) (va_up (z2 (z2 I 257 2 (nI 0)) 257 31 (nI 0)) 274 (va_up (I 274) x (nI 1))) := MX_up h2 (MR_st (by omega) h3 (v := 1) (by decide) h.2.2)
        have hO := IV_open hT h3
        have h3' : (u_st T (va_up T.1.1.1.1 x 1)).1.1.1.1 x ≠ 3 := by show va_up T.1.1.1.1 x 1 x ≠ 3; rw [va_up_self]; decide
        obtain ⟨J, g1, g2, g3, g4⟩ := M_tries_e (ρ := ρ) (d := d + 19) (c := c) (R := R) (L := L) h5 hO.1 hx h3'
        obtain ⟨f1, f2⟩ := tTry_f hV hO.1 hx h3'
        have hbn := g4.at (c0 := T.2.2.2.2) (by rw [va_257, z2a, if_pos ⟨rfl, rfl⟩]; show nI 0 = nI (T.2.2.2.2 - T.2.2.2.2); rw [Nat.sub_self]) (Nat.le_refl _) f2.2.2.1
        have hcc := cn_lt hV hO.1.1 f1.1 f2 hc
        obtain ⟨J2, K, k1, k2, k3, k4, k5⟩ := M_fin (ρ := ρ) (d := d) (c := c) (R := R) (L := L) g2 f1 (c0 := T.2.2.2.2) f2.2.2.1 hcc hbn
        rw [g1, zcv, bM_add_68, k1, zcv, bM_add_73, k2, zcv, bM_add_77, nI_add, Nat.zero_add, zidx_n (by omega) (by decide), (k3.2.2.1 x (by omega)).1]
        exact ⟨K, rfl, k3, ((hF2.up _).tr g3.t).tr k4.t⟩
      cases ep : P.2.1 x with
      | none =>
        rw [if_pos (by decide), if_pos ⟨rfl, e0, fun y hy => by cases hy⟩]
        exact go (fun y hy => by rw [ep] at hy; cases hy)
      | some y =>
        have hy := hV.2.2.2.1 x hx y ep
        rw [eO_s, if_neg (nI_pos (by omega)), M_parentOf_e h1.2.1 hV hx, zci, ep, eO_s, bM_add_42, nI_add, Nat.zero_add, zidx_n (by omega) (by decide)]
        by_cases ey : T.1.1.1.1 y = 0
        · rw [if_pos (by rw [e1, st_ne0 hT.1.1 (by omega) h.2.2]; exact ey), if_neg (fun z => z.2.2 y rfl ey)]
          exact ⟨_, rfl, h1, hF1⟩
        · rw [if_neg (by rw [e1, st_ne0 hT.1.1 (by omega) h.2.2]; exact ey), if_pos ⟨rfl, e0, fun y' hy' => by cases hy'; exact ey⟩]
          exact go (fun y' hy' => by rw [ep] at hy'; cases hy'; exact ey)
    · rw [if_neg (by rw [e1, st_ne0 hT.1.1 (by omega) h.2.2]; exact e0), if_neg (fun z => e0 z.2.1)]
      exact ⟨_, rfl, h1, hF1⟩
  · rw [Bool.eq_false_iff.mpr hi, if_pos (by decide), if_neg (fun z => by cases z.1)]
    exact ⟨_, rfl, h1, hF1⟩
theorem M_loads_l {v : Nat} (hv : v < P.1.2.1) : ∀ (n k : Nat) (T : TT) (I : Nat → Nat → Int32), k + n = P.1.1 → MX P sd T I → IV P T → ∃ J, EV ρ (d + 28) 71 21 [.ref 257, .int (nI v), .int (nI k)] [] (mk c R I L) = zcV (EV ρ (d + 27) 58 0 [.ref 257, .int (nI 0), zU, zU, zU] [] (mk c R J L)) (fun s1 => EV ρ (d + 28) 71 62 [.ref 257, zU, zU] [] s1) ∧ MX P sd (tTries P (fun x => (P.2.2.2.2.1 v x).isSome) ((List.range P.1.1).drop k) T) J ∧ FM I J ∧ BN I J T (tTries P (fun x => (P.2.2.2.2.1 v x).isSome) ((List.range P.1.1).drop k) T) := by
  intro n
  induction n with
  | zero =>
    intro k T I hk h hT
    have h12 := h.1.1
    rw [rg_nil (by omega), bM_loads_21, M_devices_e h.2.1, zci, bM_loads_26, if_pos (nI_le (by omega) (by omega))]
    exact ⟨I, rfl, h, FM.rf, BN.rf⟩
  | succ n ih =>
    intro k T I hk h hT
    have h12 := h.1.1
    rw [rg_cons (by omega), bM_loads_21, M_devices_e h.2.1, zci, bM_loads_26, if_neg (nI_ge (by omega) (by omega)), M_isOpen_e h.2.2 (by omega) (hT.1.1.1 k), zci, bM_loads_34]
    unfold tTries
    cases eo : opn T k with
    | false =>
      rw [if_pos (by decide), bM_loads_51, nI_add, Bool.false_and, if_neg (by decide)]
      exact ih (k + 1) T I (by omega) h hT
    | true =>
      rw [if_neg (by decide), M_sc_e h hv (by omega), zci, bM_loads_43, Bool.true_and]
      cases es : P.2.2.2.2.1 v k with
      | none =>
        rw [if_pos (by decide), bM_loads_51, nI_add]
        simp only [Option.isSome_none, Bool.false_eq_true, if_false]
        exact ih (k + 1) T I (by omega) h hT
      | some a =>
        have := h.1.2.2.2.2.2.2.1 v k a es
        have h3 := opn_3 eo
        rw [eO_s, if_neg (nI_pos (by omega))]
        simp only [Option.isSome_some, if_true]
        obtain ⟨J, g1, g2, g3, g4⟩ := M_tries_e (ρ := ρ) (d := d + 17) (c := c) (R := R) (L := L) h hT.1 (show k < P.1.1 by omega) h3
        rw [g1, zcv, bM_loads_51, nI_add]
        obtain ⟨J2, k1, k2, k3, k4⟩ := ih (k + 1) _ J (by omega) g2 (tTry_v h.1 hT (by omega) h3)
        exact ⟨J2, k1, k2, g3.tr k3, g4.tr k4⟩
theorem M_loads_e (h : MX P sd T I) (hT : IV P T) (hc : T.2.2.2.2 + 24 < 2 ^ 30) {v : Nat} (hv : v < P.1.2.1) : ∃ J, EV ρ (d + 28) 71 0 [.ref 257, .int (nI v), zU] [] (mk c R I L) = some ([.int (nI ((tLoad P T v).2.2.2.2 - T.2.2.2.2))], mk c R J L) ∧ MX P sd (tLoad P T v) J ∧ FX I J := by
  have hV := h.1
  have h12 := hV.1
  have h8 := hV.2.1
  have h1 := MX_z2 (j := 31) (v := nI 0) h (by decide)
  have hF1 : FX I (z2 I 257 31 (nI 0)) := FX.rf.z2 (by omega)
  have e1 : z2 I 257 31 (nI 0) 274 = I 274 := z2_ne (by decide)
  have e2 : z2 I 257 31 (nI 0) 274 441 = T.2.2.1.2 := by rw [e1]; exact h.2.2.2.2.1.2.2.2
  rw [bM_loads_0, bM_loads_5, e2, bM_loads_19]
  have e3 : ∀ w, z2 (z2 I 257 31 (nI 0)) 274 441 w = va_up (z2 I 257 31 (nI 0)) 274 (va_up (I 274) 441 w) := fun w => by rw [← e1]; rfl
  rw [e3]
  have h2 : MX P sd (u_ld T (T.2.2.1.2 ||| (nI 1 <<< (nI v &&& 31)))) (va_up (z2 I 257 31 (nI 0)) 274 (va_up (I 274) 441 (T.2.2.1.2 ||| (nI 1 <<< (nI v &&& 31))))) := MX_up h1 (MR_ld _ h.2.2 (hT.1.1.bnd hV))
  have hT2 : IV P (u_ld T (T.2.2.1.2 ||| (nI 1 <<< (nI v &&& 31)))) := IV_ld hT
  obtain ⟨J, g1, g2, g3, g4⟩ := M_loads_l (ρ := ρ) (d := d) (c := c) (R := R) (L := L) hv P.1.1 0 _ _ (by omega) h2 hT2
  rw [List.drop_zero] at g2 g4
  obtain ⟨f1, f2⟩ := tTries_v (p := fun x => (P.2.2.2.2.1 v x).isSome) hV (List.range P.1.1) _ rg_lt hT2
  have hbn := g4.at (c0 := T.2.2.2.2) (by rw [va_257, z2a, if_pos ⟨rfl, rfl⟩]; show nI 0 = nI (T.2.2.2.2 - T.2.2.2.2); rw [Nat.sub_self]) (Nat.le_refl _) f2.2.2.1
  have hcc := cn_lt hV hT2.1.1 f1.1.1 f2 hc
  obtain ⟨J2, k1, k2, k3, k4⟩ := M_ends_e (ρ := ρ) (d := d + 16) (c := c) (R := R) (L := L) g2 f1.1 (c0 := T.2.2.2.2) f2.2.2.1 (by omega) hbn
  have hS := (tSettle_f hV 13 T.2.2.2.2 _ f1.1).1
  obtain ⟨K, q1, q2, q3, q4⟩ := M_syncs_e (ρ := ρ) (d := d + 23) (c := c) (R := R) (L := L) k2 hS.1
  rw [g1, k1, zcv, bM_loads_62, q1, zcv, bM_loads_66, q4, k4]
  refine ⟨K, ?_, q2, ((hF1.up _).tr g3.x).tr (k3.tr q3.x)⟩
  rw [show (tLoad P T v).2.2.2.2 = (tLoad0 P T v).2.2.2.2 from (SF_sync P _).2.2.2.2.2.2.2.2.2.2.2.2.2]
  rfl
theorem M_load_e (h : MX P sd T I) (hT : IV P T) (hc : T.2.2.2.2 + 24 < 2 ^ 30) (v : Int32) : ∃ J, EV ρ (d + 30) 72 0 [.ref 257, .int v] [] (mk c R I L) = some ([.int (pLoad P T v).1], mk c R J L) ∧ MX P sd (pLoad P T v).2 J ∧ FT I J := by
  have hV := h.1
  have h8 := hV.2.1
  have h1 := MX_z2 (j := 2) (v := nI 0) h (by decide)
  have hF1 : FT I (z2 I 257 2 (nI 0)) := FT.rf.z2 (Or.inl rfl)
  rw [bM_load_0, bM_load_5, M_isDriver_e h1.2.1 h8, zci, bM_load_10]
  unfold pLoad
  by_cases hi : inN v P.1.2.1 = true
  · obtain ⟨x, hx, rfl⟩ := (inN_iff (by omega)).mp hi
    rw [nI_clamp (by omega), hi, if_neg (by decide), M_isLoaded_e h1.2.2 (by omega), zci, bM_load_18]
    cases el : bt T.2.2.1.2 x with
    | true =>
      rw [if_neg (by decide), bM_load_30, if_neg (fun z => by cases z.2)]
      exact ⟨_, rfl, h1, hF1⟩
    | false =>
      obtain ⟨J, g1, g2, g3⟩ := M_loads_e (ρ := ρ) (d := d + 1) (c := c) (R := R) (L := L) h1 hT hc hx
      rw [if_pos (by decide), g1, zci, bM_load_30, if_pos ⟨rfl, rfl⟩]
      exact ⟨J, rfl, g2, hF1.tr g3.t⟩
  · rw [Bool.eq_false_iff.mpr hi, if_pos (by decide), bM_load_30, if_neg (fun z => by cases z.1)]
    exact ⟨_, rfl, h1, hF1⟩
end MOPS
