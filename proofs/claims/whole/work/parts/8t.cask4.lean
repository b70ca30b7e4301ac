-- THE COMPONENT: questions with a trial
section CASK4
variable {ρ : Nat × (Nat → Int32)} {d : Nat} {c : Nat × Nat} {R S : Nat → Nat → Option Nat} {I J : Nat → Nat → Int32} {L : Nat → Nat → Int64} {P : PT} {p : Nat} {T : TT}
/-- what these questions leave as it is -/
def FQ (I J : Nat → Nat → Int32) : Prop := ∀ q, ¬ (107 ≤ q ∧ q ≤ 255) → J q = I q
def RQ (R S : Nat → Nat → Option Nat) : Prop := ∀ q k, ¬ (107 ≤ q ∧ q ≤ 250) → S q k = R q k
theorem FQ.rf : FQ I I := fun _ _ => rfl
theorem RQ.rf : RQ R R := fun _ _ _ => rfl
theorem FQ.tr {K : Nat → Nat → Int32} (h : FQ I J) (g : FQ J K) : FQ I K := fun q hq => (g q hq).trans (h q hq)
theorem RQ.tr {U : Nat → Nat → Option Nat} (h : RQ R S) (g : RQ S U) : RQ R U := fun q k hq => (g q k hq).trans (h q k hq)
theorem RQ.z {b : Nat} (hb : isB b) (h86 : b ≠ 86) (o : Option Nat) : RQ R (z2 R b 0 o) := fun q k hq => by
  rw [z2R (by unfold isB at hb; omega)]
theorem fq_b {b : Nat} (hb : isB b) (h86 : b ≠ 86) (h : ∀ q, ¬ (b ≤ q ∧ q ≤ b + 17) → J q = I q) : FQ I J := fun q hq => h q (by unfold isB at hb; omega)
theorem FB.q {b : Nat} (hb : isB b) (h86 : b ≠ 86) (h : FB b I J) : FQ I J := fun q hq => h q (by unfold isB at hb; omega) (by omega)
theorem BX_q (h : BX P p T R I) (hF : FQ I J) (hS : RQ R S) : BX P p T S J := by
  obtain ⟨hR8, ⟨hb, hV, hR, hC, hT⟩, hI, hH⟩ := h
  have hp := hC.1
  have hC2 : PC P p S J := by
    have hC' := PC_to hC hV (J := J) (fun q h1 h2 => hF q (by unfold isP at hp; omega))
    obtain ⟨h0, a1, a2, a3, a4, a5⟩ := hC'
    refine ⟨h0, a1, a2, a3, a4, fun v hv => ?_⟩
    obtain ⟨b1, b2, b3⟩ := a5 v hv
    refine ⟨b1, fun k z hz => ?_, b3⟩
    rw [hS _ _ (by unfold isP at hp; omega)]
    exact b2 k z hz
  refine ⟨by rw [hS 0 8 (by omega)]; exact hR8, ⟨hb, hV, by rw [hS 86 0 (by omega)]; exact hR, hC2, CR_to hT (fun k hk => hF _ (by simp only [List.mem_cons, List.not_mem_nil, or_false] at hk; omega)) (by rw [hF 86 (by omega)]) (by rw [hF 86 (by omega)]) (by rw [hF 86 (by omega)]) (fun _ => ⟨hF _ (by omega), hF _ (by omega)⟩) (by rw [hF 104 (by omega)])⟩, hI, fun x hx h3 => ?_⟩
  rw [hF _ (by omega)]
  exact hH x hx h3
theorem isB_107 : isB 107 := Or.inr (Or.inl rfl)
theorem B_would_e (h : BX P p T R I) (hc : T.2.2.2.2 + 24 < 2 ^ 30) (v w : Int32) : ∃ S J, EV ρ (d + 30) 210 0 [.ref 0, .int v, .int w, zU] [] (mk c R I L) = some ([.int (pWou P T v w)], mk c S J L) ∧ RQ R S ∧ FQ I J := by
  have hX := h
  obtain ⟨hR8, hCI⟩ := h
  have hV := hCI.1.2.1
  have hI := hCI.2.1
  have h12 := hV.1
  rw [bB_would_0, B_wait hX, zci, bB_would_5]
  unfold pWou
  by_cases hi : inN v P.1.1 = true ∧ opn T v.toNatClampNeg = true
  · rw [show (inN v P.1.1 && opn T v.toNatClampNeg) = true from by rw [hi.1, hi.2]; rfl, if_neg (by decide)]
    obtain ⟨hi1, hi2⟩ := hi
    obtain ⟨x, hx, rfl⟩ := (inN_iff (by omega)).mp hi1
    rw [nI_clamp (by omega)] at hi2 ⊢
    have h3 := opn_3 hi2
    by_cases w0 : w < 0
    · rw [if_pos w0, if_neg (fun z => by have := z.2; unfold inN at this; exact (of_decide_eq_true this).1 w0)]
      exact ⟨R, I, rfl, RQ.rf, FQ.rf⟩
    · have e23 : (w ≤ nI 2) ↔ ¬ nI 3 ≤ w := by
        rw [Int32.le_iff_toInt_le, Int32.le_iff_toInt_le, nI_toInt (by decide), nI_toInt (by decide)]
        omega
      rw [if_neg w0]
      by_cases w2 : w ≤ nI 2
      · have hw : inN w 3 = true := by unfold inN; exact decide_eq_true ⟨w0, e23.mp w2⟩
        obtain ⟨k, hk, rfl⟩ := (inN_iff (by decide)).mp hw
        rw [if_pos w2, if_pos ⟨⟨hi1, hi2⟩, hw⟩]
        obtain ⟨K, g1, g2, g3⟩ := Ben_copyFrom_e (ρ := ρ) (d := d + 27) (c := c) (L := L) hCI isB_107 (by decide) (by decide)
        obtain ⟨M, m1, m2, m3, m4, m5, m6⟩ := Ben_begin_e (ρ := ρ) (d := d + 27) (c := c) (L := L) g2
        obtain ⟨N, n1, n2, n3, n4, n5⟩ := Ben_attempt_e (ρ := ρ) (d := d + 24) (c := c) (L := L) m2 hx h3
        have hBF := (tTry_f hV hI.1 hx h3).2
        obtain ⟨J, j1, j2, j3, j4, j5⟩ := Ben_settle_e (ρ := ρ) (d := d + 23) (c := c) (L := L) (c0 := T.2.2.2.2) n2 n5.1 (bf_c hBF hc) (n5.at (Nat.le_refl _) (by rw [m6, Nat.sub_self]))
        have hF : FQ I J := (fq_b isB_107 (by decide) g3).tr ((FB.q isB_107 (by decide) m4.1).tr ((FB.q isB_107 (by decide) n3.1).tr (FB.q isB_107 (by decide) j3.1)))
        refine ⟨z2 R 107 0 (some p), J, ?_, RQ.z isB_107 (by decide) _, hF⟩
        have hst : J 108 x = nI ((wouT P T x).1.1.1.1 x) := (j2.1.2.2.2.2.1 x (by omega)).1
        have hsx := j2.2.1.1.1.1 x
        have hsx : (wouT P T x).1.1.1.1 x ≤ 3 := hsx
        rw [g1, zcv, bB_would_34, m1, zcv, bB_would_38, n1, zcv, bB_would_43, j1, zcv, bB_would_47]
        by_cases k0 : k = 0
        · rw [k0, if_pos (show nI 0 = 0 from rfl), if_pos (show nI 0 = nI 0 from rfl), zidx_n (by omega) (by decide), hst]
        · rw [if_neg (show ¬ nI k = 0 from by rw [nn1 (by omega)]; exact k0), if_neg (show ¬ nI k = nI 0 from by rw [nI_eq (by omega) (by decide)]; exact k0)]
          by_cases k1 : k = 1
          · rw [k1, if_pos (show nI 1 = nI 1 from rfl), if_pos (show nI 1 = nI 1 from rfl), zidx_n (by omega) (by decide), hst]
            by_cases e3 : (wouT P T x).1.1.1.1 x = 3
            · rw [if_pos (by rw [e3]), if_pos e3, zidx_n (by omega) (by decide), show J 109 x = nI ((wouT P T x).1.1.1.2 x) from (j2.1.2.2.2.2.1 x (by omega)).2 e3]
            · rw [if_neg (by rw [nI_eq (by omega) (by decide)]; exact e3), if_neg e3]
          · rw [if_neg (show ¬ nI k = nI 1 from by rw [nI_eq (by omega) (by decide)]; exact k1), if_neg (show ¬ nI k = nI 1 from by rw [nI_eq (by omega) (by decide)]; exact k1), j5.at n5.1 (n5.at (Nat.le_refl _) (by rw [m6, Nat.sub_self]))]
            rfl
      · rw [if_neg w2, if_neg (fun z => by have := z.2; unfold inN at this; exact w2 (e23.mpr (of_decide_eq_true this).2))]
        exact ⟨R, I, rfl, RQ.rf, FQ.rf⟩
  · rw [show (inN v P.1.1 && opn T v.toNatClampNeg) = false from by
      cases e1 : inN v P.1.1 with
      | false => rfl
      | true =>
        cases e2 : opn T v.toNatClampNeg with
        | false => rfl
        | true => exact absurd ⟨e1, e2⟩ hi, if_pos (by decide), if_neg (fun z => hi z.1)]
    exact ⟨R, I, rfl, RQ.rf, FQ.rf⟩
theorem B_letting (h : BX P p T R I) {x : Nat} (hx : x < P.1.1) (h3 : T.1.1.1.1 x = 3) : ∃ S J, EV ρ (d + 29) 219 0 [.ref 0, .int (nI x), zU] [] (mk c R I L) = some ([.ref 123], mk c S J L) ∧ RowIs J 123 (gnL P T x) ∧ RQ R S ∧ FQ I J := by
  obtain ⟨hR8, hCI⟩ := h
  have hV := hCI.1.2.1
  obtain ⟨K, g1, g2, g3⟩ := Ben_copyFrom_e (ρ := ρ) (d := d + 26) (c := c) (L := L) hCI isB_107 (by decide) (by decide)
  obtain ⟨M, m1, m2, m3, m4, m5, m6⟩ := Ben_begin_e (ρ := ρ) (d := d + 26) (c := c) (L := L) g2
  obtain ⟨J, j1, j2, j3, j4, j5⟩ := Ben_letGo_e (ρ := ρ) (d := d + 11) (c := c) (L := L) m2 hx h3 m3 (by
    have := bnd_12 hV hCI.2.1.1.1
    show 0 + T.1.2.2.1.length ≤ 12
    omega)
  rw [bB_lettingGo_0, g1, zcv, bB_lettingGo_15, m1, zcv, bB_lettingGo_19, j1, zcv, bB_lettingGo_25]
  refine ⟨_, J, rfl, ?_, RQ.z isB_107 (by decide) _, (fq_b isB_107 (by decide) g3).tr ((FB.q isB_107 (by decide) m4.1).tr (FB.q isB_107 (by decide) j4.1))⟩
  unfold gnL
  rw [if_pos h3]
  exact j3
theorem isRw_123 : isRw 123 := ⟨rfl, rfl, rfl, rfl, rfl⟩
theorem B_order_e (h : BX P p T R I) (v w : Int32) : ∃ S J, EV ρ (d + 30) 211 0 [.ref 0, .int v, .int w] [] (mk c R I L) = some ([.int (pOrd P T v w)], mk c S J L) ∧ RQ R S ∧ FQ I J := by
  have hX := h
  obtain ⟨hR8, hCI⟩ := h
  have hV := hCI.1.2.1
  have hC := hCI.1.2.2.2.1
  have hT := hCI.1.2.2.2.2
  have h12 := hV.1
  rw [bB_order_0, hR8, zrs, zob (xp_o hC.1), Pla_dev_e hC, zci, bB_order_8]
  unfold pOrd
  by_cases hi : inN v P.1.1 = true
  · obtain ⟨x, hx, rfl⟩ := (inN_iff (by omega)).mp hi
    have hs := hCI.2.1.1.1.1 x
    rw [nI_clamp (by omega), hi, if_neg (by decide), zidx_n (by omega) (by decide), show I 87 x = nI (T.1.1.1.1 x) from (hT.1 x (by omega)).1]
    by_cases e3 : T.1.1.1.1 x = 3
    · obtain ⟨S, J, j1, j2, j3, j4⟩ := B_letting (ρ := ρ) (d := d) (c := c) (L := L) hX hx e3
      rw [if_pos (by rw [e3]), j1]
      show ∃ S' J', EV ρ (d + 30) 211 31 [zU, zU, .int w] [.ref 123] (mk c S J L) = _ ∧ _
      rw [bB_order_31, zob isRw_123.1, Row_at_e isRw_123 j2, zci, bB_order_35]
      refine ⟨S, J, ?_, j3, j4⟩
      by_cases ew : w < 0 ∨ nI (gnL P T x).length ≤ w
      · rw [if_pos ew, if_neg (fun z => by have := z.2; unfold inN at this; have := of_decide_eq_true this; exact ew.elim this.1 this.2)]
      · rw [if_neg ew, if_pos ⟨rfl, by unfold inN; exact decide_eq_true ⟨fun z => ew (Or.inl z), fun z => ew (Or.inr z)⟩⟩]
    · rw [if_neg (by rw [nI_eq (by omega) (by decide)]; exact e3)]
      refine ⟨R, I, ?_, RQ.rf, FQ.rf⟩
      rw [show gnL P T x = [] from by unfold gnL; rw [if_neg e3], if_neg (fun z => by
        obtain ⟨j, hj, -⟩ := (inN_iff (by decide)).mp z.2
        cases hj)]
  · rw [Bool.eq_false_iff.mpr hi, if_pos (by decide), if_neg (fun z => by cases z.1)]
    exact ⟨R, I, rfl, RQ.rf, FQ.rf⟩
theorem B_links_e (h : BX P p T R I) (v w : Int32) : ∃ S J, EV ρ (d + 30) 206 0 [.ref 0, .int v, .int w] [] (mk c R I L) = some ([.int (pLnk P T v w)], mk c S J L) ∧ RQ R S ∧ FQ I J := by
  have hX := h
  obtain ⟨hR8, hCI⟩ := h
  have hV := hCI.1.2.1
  have hb := hCI.1.1
  have hC := hCI.1.2.2.2.1
  have hT := hCI.1.2.2.2.2
  have hv := hCI.2.1.1.1
  have h12 := hV.1
  have hp := hC.1
  rw [bB_links_0, hR8, zrs, zob (xp_o hp), Pla_dev_e hC, zci, bB_links_8]
  unfold pLnk
  by_cases hi : inN v P.1.1 = true
  · obtain ⟨x, hx, rfl⟩ := (inN_iff (by omega)).mp hi
    have hs := hv.1 x
    have hx12 : x < 12 := by omega
    obtain ⟨-, -, q3, q4⟩ := hT.2.1 x hx12
    rw [nI_clamp (by omega), hi, if_neg (by decide), if_pos rfl]
    unfold qLnk
    by_cases w0 : w = nI 0
    · rw [if_pos w0, if_pos w0, zidx_n hx12 (by decide), show I 92 x = T.2.1.1.1 x from q4]
      exact ⟨R, I, rfl, RQ.rf, FQ.rf⟩
    rw [if_neg w0, if_neg w0]
    by_cases w1 : w = nI 1
    · rw [if_pos w1, if_pos w1, hR8, zrs, zob (xp_o hp), hC.2.1, B_holders_e (q := 92) (xb_a6 hb) (by omega) (by decide) (by omega), zci, bB_links_84]
      refine ⟨R, I, ?_, RQ.rf, FQ.rf⟩
      congr 3
      congr 1
      refine b_ext (fun i hi => ?_)
      rw [bt_R (by omega), bt_R (by omega)]
      by_cases hid : i < P.1.1
      · rw [show I 92 i = T.2.1.1.1 i from (hT.2.1 i (by omega)).2.2.2]
      · rw [decide_eq_false hid]; rfl
    rw [if_neg w1, if_neg w1]
    by_cases w2 : w = nI 2
    · rw [if_pos w2, if_pos w2, zidx_n hx12 (by decide), show I 93 x = T.1.2.2.2 x from q3]
      exact ⟨R, I, rfl, RQ.rf, FQ.rf⟩
    rw [if_neg w2, if_neg w2]
    by_cases w3 : w = nI 3
    · rw [if_pos w3, if_pos w3, hR8, zrs, zob (xp_o hp), hC.2.1, B_holders_e (q := 93) (xb_a7 hb) (by omega) (by decide) (by omega), zci, bB_links_113]
      refine ⟨R, I, ?_, RQ.rf, FQ.rf⟩
      congr 3
      congr 1
      refine b_ext (fun i hi => ?_)
      rw [bt_R (by omega), bt_R (by omega)]
      by_cases hid : i < P.1.1
      · rw [show I 93 i = T.1.2.2.2 i from (hT.2.1 i (by omega)).2.2.1]
      · rw [decide_eq_false hid]; rfl
    rw [if_neg w3, if_neg w3]
    by_cases w4 : w = nI 4
    · rw [if_pos w4, if_pos w4, Ben_above_e hCI.1 (hv.ovB hV) hx, zci, bB_links_122]
      exact ⟨R, I, rfl, RQ.rf, FQ.rf⟩
    rw [if_neg w4, if_neg w4]
    by_cases w5 : w = nI 5
    · rw [if_pos w5, if_pos w5, zidx_n hx12 (by decide), show I 87 x = nI (T.1.1.1.1 x) from (hT.1 x hx12).1]
      by_cases e3 : T.1.1.1.1 x = 3
      · obtain ⟨S, J, j1, j2, j3, j4⟩ := B_letting (ρ := ρ) (d := d) (c := c) (L := L) hX hx e3
        rw [if_pos (by rw [e3]), j1]
        show ∃ S' J', EV ρ (d + 30) 206 141 [zU, zU, zU] [.ref 123] (mk c S J L) = _ ∧ _
        rw [bB_links_141, zob isRw_123.1, Row_bits_e isRw_123 j2, zci, bB_links_144]
        exact ⟨S, J, rfl, j3, j4⟩
      · rw [if_neg (by rw [nI_eq (by omega) (by decide)]; exact e3), show gnL P T x = [] from by unfold gnL; rw [if_neg e3]]
        exact ⟨R, I, rfl, RQ.rf, FQ.rf⟩
    rw [if_neg w5, if_neg w5]
    by_cases w6 : w = nI 6
    · rw [if_pos w6, if_pos w6, Ben_waitsFor_e hCI.1 hv hx, zci, bB_links_157]
      exact ⟨R, I, rfl, RQ.rf, FQ.rf⟩
    rw [if_neg w6, if_neg w6]
    exact ⟨R, I, rfl, RQ.rf, FQ.rf⟩
  · rw [Bool.eq_false_iff.mpr hi, if_pos (by decide), if_neg (by decide)]
    exact ⟨R, I, rfl, RQ.rf, FQ.rf⟩
end CASK4
