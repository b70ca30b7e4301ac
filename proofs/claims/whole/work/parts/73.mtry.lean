-- PROBES in the reference: probes, endsBy, tries, ends
section MTRY
variable {ρ : Nat × (Nat → Int32)} {d : Nat} {c : Nat × Nat} {R : Nat → Nat → Option Nat} {I : Nat → Nat → Int32} {L : Nat → Nat → Int64} {P : PT} {sd : Nat} {T : TT}
/-- the reference's count of bindings goes with the stamps -/
def BN (I J : Nat → Nat → Int32) (T U : TT) : Prop := J 257 31 - nI U.2.2.2.2 = I 257 31 - nI T.2.2.2.2
theorem BN.rf : BN I I T T := rfl
theorem BN.tr {I J K : Nat → Nat → Int32} {T U W : TT} (h : BN I J T U) (g : BN J K U W) : BN I K T W := Eq.trans g h
theorem BN.of {I J : Nat → Nat → Int32} {T U : TT} (h : J 257 31 = I 257 31) (hc : U.2.2.2.2 = T.2.2.2.2) : BN I J T U := by unfold BN; rw [h, hc]
theorem BN.at {I J : Nat → Nat → Int32} {T U : TT} {c0 : Nat} (h : BN I J T U) (h0 : I 257 31 = nI (T.2.2.2.2 - c0)) (h1 : c0 ≤ T.2.2.2.2) (h2 : T.2.2.2.2 ≤ U.2.2.2.2) : J 257 31 = nI (U.2.2.2.2 - c0) := by
  have e1 : nI (T.2.2.2.2 - c0) = nI T.2.2.2.2 - nI c0 := (pk_sub h1).symm
  have e2 : nI (U.2.2.2.2 - c0) = nI U.2.2.2.2 - nI c0 := (pk_sub (by omega)).symm
  unfold BN at h
  rw [h0, e1] at h
  rw [e2]
  have h3 : J 257 31 - nI U.2.2.2.2 + nI U.2.2.2.2 = nI T.2.2.2.2 - nI c0 - nI T.2.2.2.2 + nI U.2.2.2.2 := by rw [h]
  rw [Int32.sub_add_cancel] at h3
  rw [h3]
  simp only [Int32.sub_eq_add_neg]
  rw [Int32.add_comm (nI T.2.2.2.2) (-nI c0), Int32.add_assoc (-nI c0), Int32.add_right_neg, Int32.add_zero, Int32.add_comm]
theorem va_257 {s : Nat → Int32} {j : Nat} : va_up I 274 s 257 j = I 257 j := by rw [va_n (by decide)]
set_option maxHeartbeats 1000000 in
theorem M_probes_e (h : MX P sd T I) (hT : TI P T) {x v : Nat} (hx : x < P.1.1) (hvn : v < P.1.2.1) (h3 : T.1.1.1.1 x ≠ 3) : ∃ J, EV ρ (d + 8) 51 0 [.ref 257, .int (nI x), .int (nI v), zU, zU] [] (mk c R I L) = some ([.int (nI (tProbe P T x v).1)], mk c R J L) ∧ MX P sd (tProbe P T x v).2 J ∧ FM I J ∧ BN I J T (tProbe P T x v).2 := by
  have hV := h.1
  have h12 := hV.1
  obtain ⟨hv, ht, hbd⟩ := hT
  obtain ⟨⟨f1, f2, f3, f4, f5, f6, f7, f8, f9, f10, f11⟩, hW, hw⟩ := tWrong_f hV hv hx hvn (ht x h3)
  have hbW : ∀ y ∈ (tWrong P T x v).2.1.2.2.1, y < 12 := hW.bnd hV
  obtain ⟨J, g1, g2, g3, g4, g5⟩ := M_wrongOf_e (ρ := ρ) (d := d) (c := c) (R := R) (L := L) h hv hx hvn (ht x h3)
  have hR : TV P (tRea P T x v) := TV_ca (TV_re hW)
  have e0 : ∀ (K : Nat → Nat → Int32) j w, z2 K 274 j w = va_up K 274 (va_up (K 274) j w) := fun _ _ _ => rfl
  -- the reason
  have step : ∃ s, EV ρ (d + 8) 51 0 [.ref 257, .int (nI x), .int (nI v), zU, zU] [] (mk c R I L) = EV ρ (d + 8) 51 53 [.ref 257, .int (nI x), .int (nI v), .int (nI (tWrong P T x v).1.1), zU] [] (mk c R (va_up J 274 s) L) ∧ MR (tRea P T x v) s := by
    refine ⟨_, ?_, MR_ca (T := u_re (tWrong P T x v).2 _) (show x < 12 by omega) (tWrong P T x v).1.2 (MR_re (show x < 12 by omega) (nI (tWrong P T x v).1.1) g2.2.2 hbW) hbW⟩
    rw [bM_probes_0, g1, zci, bM_probes_6]
    have hw7 := hw.1
    have fin : ∀ (y : Int32), y = (tWrong P T x v).1.2 → (zidx (nI 24 + nI x) 443 fun j1 => EV ρ (d + 8) 51 42 [.ref 257, .int (nI x), .int (nI v), .int (nI (tWrong P T x v).1.1), .int y] [] (mk c R (z2 J 274 j1 (nI (tWrong P T x v).1.1)) L)) = EV ρ (d + 8) 51 53 [.ref 257, .int (nI x), .int (nI v), .int (nI (tWrong P T x v).1.1), zU] [] (mk c R (va_up J 274 (va_up (va_up (J 274) (24 + x) (nI (tWrong P T x v).1.1)) (36 + x) (tWrong P T x v).1.2)) L) := fun y hy => by
      rw [nI_add, zidx_n (by omega) (by decide), bM_probes_42, nI_add, zidx_n (by omega) (by decide), e0 J, z2_u, hy]
    by_cases k5 : (tWrong P T x v).1.1 = 5
    · rw [if_pos (by rw [k5])]
      exact fin _ (hw.2 (Or.inr (Or.inl k5))).symm
    · rw [if_neg (by rw [nI_eq (by omega) (by decide)]; exact k5)]
      by_cases k7 : (tWrong P T x v).1.1 = 7
      · rw [if_pos (by rw [k7])]
        exact fin _ (hw.2 (Or.inr (Or.inr k7))).symm
      · rw [if_neg (by rw [nI_eq (by omega) (by decide)]; exact k7)]
        by_cases k0 : (tWrong P T x v).1.1 = 0
        · rw [if_pos ((nn1 (by omega)).mpr k0)]
          exact fin _ (hw.2 (Or.inl k0)).symm
        · rw [if_neg (by rw [nn1 (by omega)]; exact k0)]
          exact fin _ (g5 k0)
  obtain ⟨s, k1, k2⟩ := step
  have hM : MX P sd (tRea P T x v) (va_up J 274 s) := MX_up g2 k2
  have hbR : ∀ y ∈ (tRea P T x v).1.2.2.1, y < 12 := hR.bnd hV
  rw [k1, bM_probes_53]
  unfold tProbe
  by_cases e : (tWrong P T x v).1.1 = 0
  · rw [if_pos e, if_pos (by rw [e]; decide)]
    obtain ⟨s2, q1, q2⟩ := M_leavesRow_e (ρ := ρ) (d := d + 5) (c := c) (R := R) (L := L) hM.2.2 hbR (hR.row hV) (show x < 12 by omega)
    rw [q1, zcv, bx_uu, bM_probes_85, nI_add, Nat.zero_add, zidx_n (by omega) (by decide), e0, bx_uu, va_s, bM_probes_94, nI_add, zidx_n (by omega) (by decide), z2_u, bM_probes_104, z2_u, va_s, va_up_ne (j := 440) _ _ (by omega), va_up_ne (j := 440) _ _ (by omega), q2.2.2.2.2.2.1.1, nI_add, bM_probes_116, nI_add, zidx_n (by omega) (by decide), z2_u, va_s, va_up_self, bM_probes_133, nI_add, nI_add, zidx_n (by omega) (by decide), zidx_n (by omega) (by decide), zidx_n (by omega) (by decide)]
    have hnb : x ∉ (u_row (tRea P T x v) ((tRea P T x v).1.2.1.2.filter (· ≠ x))).1.2.2.1 := by
      show x ∉ (tWrong P T x v).2.1.2.2.1
      rw [f7]
      exact fun z => h3 ((hv.2.2.1.2 x).mp z).2
    have hB := MR_bind (T := u_row (tRea P T x v) ((tRea P T x v).1.2.1.2.filter (· ≠ x))) (show x < 12 by omega) v hbR hnb q2
    generalize hs3 : va_up (va_up (va_up (va_up s2 x (nI 3)) (12 + x) (nI v)) 440 (nI ((u_row (tRea P T x v) ((tRea P T x v).1.2.1.2.filter (· ≠ x))).2.2.2.2 + 1))) (60 + x) (nI ((u_row (tRea P T x v) ((tRea P T x v).1.2.1.2.filter (· ≠ x))).2.2.2.2 + 1)) = s3 at hB ⊢
    have hbB : ∀ y ∈ (tRea P T x v).1.2.2.1 ++ [x], y < 12 := fun y hy => by
      rcases List.mem_append.mp hy with hy | hy
      · exact hbR y hy
      · rw [List.mem_singleton.mp hy]; omega
    have hL := MR_lk (show x < 12 by omega) ((tRea P T x v).1.2.2.2 x ||| (tRea P T x v).2.1.1.1 x) hB hbB
    rw [va_s, z2_u, (hB.2.1 x (by omega)).2.2.2.1, (hB.2.1 x (by omega)).2.2.2.2, bM_probes_154]
    obtain ⟨s4, r1, r2⟩ := M_logs_e (ρ := ρ) (d := d + 6) (c := c) (R := R) (I := va_up J 274 (va_up s3 (84 + x) ((tRea P T x v).1.2.2.2 x ||| (tRea P T x v).2.1.1.1 x))) (L := L) (by rw [va_s]; exact hL) hbB (nI 1) (nI x) (nI v)
    rw [r1, zcv, bx_uu, bM_probes_161, bM_probes_171]
    refine ⟨_, rfl, MX_z2 (MX_up (I := J) g2 r2) (by decide), (g3.up _).z2 (Or.inr rfl), ?_⟩
    unfold BN
    rw [z2a, if_pos ⟨rfl, rfl⟩, va_257, g4]
    show I 257 31 + nI 1 - nI ((tWrong P T x v).2.2.2.2.2 + 1) = _
    rw [f11, ← nI_add]
    simp only [Int32.sub_eq_add_neg]
    rw [Int32.neg_add, Int32.sub_eq_add_neg, Int32.add_assoc, Int32.add_comm (-nI T.2.2.2.2), ← Int32.add_assoc (nI 1), Int32.add_right_neg, Int32.zero_add]
  · rw [if_neg e, if_neg (nI_nle (by omega) (by have := hw.1; omega))]
    obtain ⟨s2, q1, q2⟩ := M_releases_e (ρ := ρ) (d := d + 5) (c := c) (R := R) (L := L) (show x < 12 by omega) (hR.2.2.2.2.2.2.2.1 x) hbR hM.2.2
    rw [q1, zcv, bx_uu, bM_probes_62]
    have hrel := TV_release (x := x) hR
    have hw7 := hw.1
    have fin : ∀ a : Int32, ∃ K, zcV (EV ρ (d + 7) 45 0 [.ref 257, .int a, .int (nI x), .int (nI v), zU, zU] [] (mk c R (va_up J 274 s2) L)) (fun s1 => EV ρ (d + 8) 51 78 [zU, zU, zU, .int (nI (tWrong P T x v).1.1), zU] [] s1) = some ([.int (nI (tWrong P T x v).1.1)], mk c R K L) ∧ MX P sd (tLog (tRelease (tRea P T x v) x) a (nI x) (nI v)) K ∧ FM I K ∧ BN I K T (tLog (tRelease (tRea P T x v) x) a (nI x) (nI v)) := fun a => by
      obtain ⟨s4, r1, r2⟩ := M_logs_e (ρ := ρ) (d := d + 6) (c := c) (R := R) (I := va_up J 274 s2) (L := L) (by rw [va_s]; exact q2) (hrel.bnd hV) a (nI x) (nI v)
      rw [r1, zcv, bx_uu, bM_probes_78]
      exact ⟨_, rfl, MX_up g2 r2, g3.up _, BN.of (by rw [va_257]; exact g4) ((tRelease_f (tRea P T x v) x).2.2.2.2.2.2.2.2.1.trans f11)⟩
    by_cases e3 : (tWrong P T x v).1.1 < 3
    · rw [if_neg (nI_ge e3 (by omega)), if_pos e3]
      exact fin (nI 2)
    · rw [if_pos (nI_le (by omega) (by omega)), if_neg e3]
      exact fin (nI 3)
theorem M_endsBy_e (h : MX P sd T I) (hT : TI P T) {x v : Nat} (hx : x < P.1.1) (hvn : v < P.1.2.1) (h3 : T.1.1.1.1 x ≠ 3) : ∃ J, EV ρ (d + 9) 56 0 [.ref 257, .int (nI x), .int (nI v), zU] [] (mk c R I L) = some ([.int (bo (tEnd1 P T x v).1)], mk c R J L) ∧ MX P sd (tEnd1 P T x v).2 J ∧ FM I J ∧ BN I J T (tEnd1 P T x v).2 := by
  have hV := h.1
  have h12 := hV.1
  obtain ⟨g1, g2, g3, g4, g5⟩ := tProbe_f hV hT hx hvn h3
  obtain ⟨J, k1, k2, k3, k4⟩ := M_probes_e (ρ := ρ) (d := d) (c := c) (R := R) (L := L) h hT hx hvn h3
  rw [bM_endsBy_0, k1, zci, bM_endsBy_6]
  unfold tEnd1
  by_cases e : (tProbe P T x v).1 = 1 ∨ (tProbe P T x v).1 = 2
  · rw [if_pos e]
    have h5 : (tProbe P T x v).2.1.1.1.1 x ≠ 3 := by rw [(g5 (by omega)).2]; exact h3
    obtain ⟨s, r1, r2⟩ := M_defers_e (ρ := ρ) (d := d + 6) (c := c) (R := R) (L := L) k2.2.2 (g1.1.bnd hV) (g1.1.row hV) (show x < 12 by omega) h5
    have fin : zcV (EV ρ (d + 8) 54 0 [.ref 257, .int (nI x)] [] (mk c R J L)) (fun s1 => EV ρ (d + 9) 56 22 [zU, zU, zU, .int (nI (tProbe P T x v).1)] [] s1) = some ([.int (bo true)], mk c R (va_up J 274 s) L) := by
      rw [r1, zcv, bM_endsBy_22, if_neg (nI_ge (by omega) (by omega))]
      rfl
    refine ⟨va_up J 274 s, ?_, MX_up k2 r2, k3.up _, k4.tr (BN.of va_257 rfl)⟩
    by_cases e1 : (tProbe P T x v).1 = 1
    · rw [if_pos (by rw [e1])]
      exact fin
    · rw [if_neg (by rw [nI_eq (by omega) (by decide)]; exact e1), if_pos (by rw [show (tProbe P T x v).1 = 2 by omega])]
      exact fin
  · rw [if_neg e, if_neg (by rw [nI_eq (by omega) (by decide)]; omega), if_neg (by rw [nI_eq (by omega) (by decide)]; omega), bM_endsBy_22]
    refine ⟨J, ?_, k2, k3, k4⟩
    by_cases e3 : (tProbe P T x v).1 < 3
    · rw [if_neg (nI_ge e3 (by omega)), decide_eq_true e3]; rfl
    · rw [if_pos (nI_le (by omega) (by omega)), decide_eq_false e3]; rfl
theorem lnL_BF {T U : TT} (h : BF T U) (x : Nat) : lnL P U x = lnL P T x := by unfold lnL; rw [h.1]
theorem M_tries_l {x : Nat} (hx : x < P.1.1) : ∀ (n i : Nat) (T : TT) (I : Nat → Nat → Int32), i + n = (lnL P T x).length → MX P sd T I → TI P T → T.1.1.1.1 x ≠ 3 → ∃ J, EV ρ (d + 10) 57 2 [.ref 257, .int (nI x), .int (nI i)] [] (mk c R I L) = some ([], mk c R J L) ∧ MX P sd (tTryL P x ((lnL P T x).drop i) T) J ∧ FM I J ∧ BN I J T (tTryL P x ((lnL P T x).drop i) T) := by
  intro n
  induction n with
  | zero =>
    intro i T I hi h hT h3
    have h12 := h.1.1
    have hl8 : (lnL P T x).length ≤ 8 := Nat.le_trans (List.length_filter_le _ _) (rk_len h.1 hx)
    rw [bM_tries_2, M_inLine_e h hx (by omega), zci, bM_tries_8, List.getElem?_eq_none (by omega), if_pos (by decide), List.drop_eq_nil_of_le (by omega)]
    obtain ⟨s, r1, r2⟩ := M_idles_e (ρ := ρ) (d := d + 6) (c := c) (R := R) (L := L) h.2.2 (hT.1.bnd h.1) (hT.1.row h.1) (show x < 12 by omega) h3
    rw [r1, zcv, bM_tries_37]
    exact ⟨_, rfl, MX_up h r2, FM.rf.up _, BN.of va_257 rfl⟩
  | succ n ih =>
    intro i T I hi h hT h3
    have h12 := h.1.1
    have h8 := h.1.2.1
    have hl8 : (lnL P T x).length ≤ 8 := Nat.le_trans (List.length_filter_le _ _) (rk_len h.1 hx)
    have hi2 : i < (lnL P T x).length := by omega
    have hvn := lnL_lt h.1 hx (List.getElem_mem hi2)
    rw [bM_tries_2, M_inLine_e h hx (by omega), zci, bM_tries_8, List.getElem?_eq_getElem hi2, eO_s, if_neg (nI_pos (by omega)), M_inLine_e h hx (by omega), zci, List.getElem?_eq_getElem hi2, eO_s, bM_tries_19, List.drop_eq_getElem_cons hi2]
    obtain ⟨J, k1, k2, k3, k4⟩ := M_endsBy_e (ρ := ρ) (d := d) (c := c) (R := R) (L := L) h hT hx hvn h3
    obtain ⟨f1, f2, f3⟩ := tEnd1_f h.1 hT hx hvn h3
    rw [k1, zci, bM_tries_22, nI_add]
    unfold tTryL
    cases e : (tEnd1 P T x (lnL P T x)[i]).1 with
    | true =>
      rw [if_neg (by decide), if_pos rfl]
      exact ⟨J, rfl, k2, k3, k4⟩
    | false =>
      rw [if_pos (by decide), if_neg (by decide)]
      have e2 := lnL_BF (P := P) f2 x
      obtain ⟨J2, q1, q2, q3, q4⟩ := ih (i + 1) _ J (by rw [e2]; omega) k2 f1 (f3 e)
      rw [e2] at q2 q4
      exact ⟨J2, q1, q2, k3.tr q3, k4.tr q4⟩
theorem M_tries_e (h : MX P sd T I) (hT : TI P T) {x : Nat} (hx : x < P.1.1) (h3 : T.1.1.1.1 x ≠ 3) : ∃ J, EV ρ (d + 10) 57 0 [.ref 257, .int (nI x), zU] [] (mk c R I L) = some ([], mk c R J L) ∧ MX P sd (tTry P T x) J ∧ FM I J ∧ BN I J T (tTry P T x) := by
  rw [bM_tries_0]
  exact M_tries_l hx (lnL P T x).length 0 T I (by omega) h hT h3
end MTRY
