-- THE COMPONENT: questions that leave all as it is
section CASK3
variable {ρ : Nat × (Nat → Int32)} {d : Nat} {c : Nat × Nat} {R : Nat → Nat → Option Nat} {I J : Nat → Nat → Int32} {L : Nat → Nat → Int64} {P : PT} {p : Nat} {T : TT}
theorem hs_bo {k : Nat} (hk : k < 32) (S : Int32) : (S >>> (nI k &&& 31)) &&& nI 1 = bo (bt S k) := by
  cases e : bt S k with
  | true => exact (hs_b hk S).mpr e
  | false => exact (hs_0 hk S).mpr e
theorem B_device_e (h : BX P p T R I) (v w : Int32) : EV ρ (d + 30) 205 0 [.ref 0, .int v, .int w, zU] [] (mk c R I L) = some ([.int (pDev P T v w)], mk c R I L) := by
  obtain ⟨hR8, hCI⟩ := h
  have hV := hCI.1.2.1
  have hb := hCI.1.1
  have hC := hCI.1.2.2.2.1
  have hT := hCI.1.2.2.2.2
  have hI := hCI.2.1
  have hv := hI.1.1
  have h12 := hV.1
  have hp := hC.1
  rw [bB_device_0, hR8, zrs, zob (xp_o hp), Pla_dev_e hC, zci, bB_device_8]
  unfold pDev
  by_cases hi : inN v P.1.1 = true
  · obtain ⟨x, hx, rfl⟩ := (inN_iff (by omega)).mp hi
    have hs := hv.1 x
    have hx12 : x < 12 := by omega
    have q1 : I 87 x = nI (T.1.1.1.1 x) := (hT.1 x hx12).1
    obtain ⟨q3, q4, q5, q6⟩ := hT.2.1 x hx12
    have q3 : I 89 x = T.1.1.2.1 x := q3
    have q4 : I 90 x = T.1.1.2.2 x := q4
    rw [nI_clamp (by omega), hi, if_neg (by decide), zidx_n (by omega) (by decide), q1, if_pos rfl]
    have key : ∀ s, s = bo (decide (T.1.1.1.1 x = 3)) → EV ρ (d + 30) 205 32 [.ref 0, .int (nI x), .int w, zU] [.int s] (mk c R I L) = some ([.int (qDev P T x w)], mk c R I L) := fun s hs2 => by
      rw [bB_device_32]
      unfold qDev
      by_cases w0 : w = nI 0
      · rw [if_pos w0, if_pos w0, zidx_n hx12 (by decide), q1]
      rw [if_neg w0, if_neg w0]
      by_cases w1 : w = nI 1
      · rw [if_pos w1, if_pos w1]
        by_cases e3 : T.1.1.1.1 x = 3
        · rw [hs2, decide_eq_true e3, if_neg (by decide), if_pos e3, zidx_n hx12 (by decide), bB_device_123, show I 88 x = nI (T.1.1.1.2 x) from (hT.1 x hx12).2 e3]
        · rw [hs2, decide_eq_false e3, if_pos (by decide), if_neg e3, bB_device_123]
      rw [if_neg w1, if_neg w1]
      by_cases w2 : w = nI 2
      · rw [if_pos w2, if_pos w2, hR8, zrs, zob (xp_o hp), xp_F6 hp, zrs, zar (xp_a4 hp), zidx_n hx12 (by decide), (hC.2.2.2.2.1 x hx).1]
      rw [if_neg w2, if_neg w2]
      by_cases w3 : w = nI 3
      · rw [if_pos w3, if_pos w3, zidx_n hx12 (by decide), q3]
      rw [if_neg w3, if_neg w3]
      by_cases w4 : w = nI 4
      · rw [if_pos w4, if_pos w4, zidx_n hx12 (by decide), q4]
      rw [if_neg w4, if_neg w4]
      by_cases w5 : w = nI 5
      · rw [if_pos w5, if_pos w5, Row_placeOf_e (q := 96) (xb_r10 hb) hT.2.2.2.1 (fun y hy => by have := (hv.row hV).2 y hy; omega) (by omega), zci, bB_device_165]
      rw [if_neg w5, if_neg w5]
      by_cases w6 : w = nI 6
      · rw [if_pos w6, if_pos w6, hs_bo (by omega), (hT.2.2.2.2.2.1 rfl).2 x (by omega), decide_eq_true hx12, Bool.true_and]
      rw [if_neg w6, if_neg w6]
      by_cases w7 : w = nI 7
      · rw [if_pos w7, if_pos w7]
        by_cases e3 : T.1.1.1.1 x = 3
        · rw [hs2, decide_eq_true e3, if_neg (by decide), if_pos e3, zidx_n hx12 (by decide), bB_device_195, show I 91 x = nI (hgF P T 13 x) from hCI.2.2 x hx e3]
        · rw [hs2, decide_eq_false e3, if_pos (by decide), if_neg e3, bB_device_195]
      rw [if_neg w7, if_neg w7]
      by_cases w8 : w = nI 8
      · rw [if_pos w8, if_pos w8, Ben_poolOf_e hCI.1 hI hx, zci, bB_device_204]
      rw [if_neg w8, if_neg w8]
      by_cases w9 : w = nI 9
      · rw [if_pos w9, if_pos w9, B_placesOf_e (q := 94) (xb_a8 hb) (by decide) (by decide), zci, bB_device_218]
        congr 3
        congr 1
        unfold qln
        refine b_ext (fun i hi => ?_)
        rw [bt_R (by decide), bt_R (by decide)]
        by_cases h16 : i < 16
        · rw [show I 94 i = eO (T.2.1.1.2 i) from hT.2.2.1.1 i h16]
          have := eO_i (o := T.2.1.1.2 i) (j := x) (fun k hk => by have := hv.2.2.2.2.1 i k hk; omega) (by omega)
          simp only [this]
        · rw [decide_eq_false h16]; rfl
      rw [if_neg w9, if_neg w9]
      by_cases w10 : w = nI 10
      · rw [if_pos w10, if_pos w10, Ben_givenBy_e hCI.1 hv hx12, zci, bB_device_227]
        rfl
      rw [if_neg w10, if_neg w10]
      by_cases w11 : w = nI 11
      · rw [if_pos w11, if_pos w11, Ben_lacks_e hCI.1 hv hx, zci, bB_device_236]
      rw [if_neg w11, if_neg w11]
    by_cases e3 : T.1.1.1.1 x = 3
    · rw [if_pos (by rw [e3])]
      exact key (nI 1) (by rw [decide_eq_true e3]; rfl)
    · rw [if_neg (by rw [nI_eq (by omega) (by decide)]; exact e3)]
      exact key (nI 0) (by rw [decide_eq_false e3]; rfl)
  · rw [Bool.eq_false_iff.mpr hi, if_pos (by decide), if_neg (by decide)]
theorem B_driver_e (h : BX P p T R I) {np : Nat → Nat} (hnp : ∀ v, v < P.1.2.1 → I (p + 9) v = nI (np v)) (v w : Int32) : EV ρ (d + 30) 207 0 [.ref 0, .int v, .int w] [] (mk c R I L) = some ([.int (pDrv P T np v w)], mk c R I L) := by
  obtain ⟨hR8, hCI⟩ := h
  have hV := hCI.1.2.1
  have hb := hCI.1.1
  have hC := hCI.1.2.2.2.1
  have hT := hCI.1.2.2.2.2
  have hI := hCI.2.1
  have h8 := hV.2.1
  have hp := hC.1
  rw [bB_driver_0, hR8, zrs, zob (xp_o hp), Pla_drv_e hC, zci, bB_driver_8]
  unfold pDrv
  by_cases hi : inN v P.1.2.1 = true
  · obtain ⟨x, hx, rfl⟩ := (inN_iff (by omega)).mp hi
    rw [nI_clamp (by omega), hi, if_neg (by decide), if_pos rfl]
    unfold qDrv
    by_cases w0 : w = nI 0
    · rw [if_pos w0, if_pos w0, Ben_isLoaded_e hb hT (by omega), zci, bB_driver_52]
      cases bt T.2.2.1.2 x with
      | true => rw [if_neg (by decide)]; rfl
      | false => rw [if_pos (by decide)]; rfl
    rw [if_neg w0, if_neg w0]
    by_cases w1 : w = nI 1
    · rw [if_pos w1, if_pos w1, hR8, zrs, zob (xp_o hp), xp_F12 hp, zrs, zar (xp_a10 hp), zidx_n (by omega) (by decide), (hC.2.2.2.2.2 x hx).1]
    rw [if_neg w1, if_neg w1]
    by_cases w2 : w = nI 2
    · rw [if_pos w2, if_pos w2, hR8, zrs, zob (xp_o hp), xp_F11 hp, zrs, zar (xp_a9 hp), zidx_n (by omega) (by decide), hnp x hx]
    rw [if_neg w2, if_neg w2]
    by_cases w3 : w = nI 3
    · rw [if_pos w3, if_pos w3, Ben_boundTo_e hCI.1 hI (by omega), zci, bB_driver_89]
    rw [if_neg w3, if_neg w3]
  · rw [Bool.eq_false_iff.mpr hi, if_pos (by decide), if_neg (by decide)]
theorem B_score_e (h : BX P p T R I) (v w : Int32) : EV ρ (d + 30) 208 0 [.ref 0, .int v, .int w] [] (mk c R I L) = some ([.int (pSco P v w)], mk c R I L) := by
  obtain ⟨hR8, hCI⟩ := h
  have hV := hCI.1.2.1
  have hC := hCI.1.2.2.2.1
  have h12 := hV.1
  have h8 := hV.2.1
  have hp := hC.1
  rw [bB_score_0, hR8, zrs, zob (xp_o hp), Pla_drv_e hC, zci, bB_score_8]
  unfold pSco
  by_cases hi : inN v P.1.2.1 = true
  · rw [hi, if_neg (by decide), hR8, zrs, zob (xp_o hp), Pla_dev_e hC, zci, bB_score_19]
    by_cases hw : inN w P.1.1 = true
    · obtain ⟨x, hx, rfl⟩ := (inN_iff (by omega)).mp hi
      obtain ⟨y, hy, rfl⟩ := (inN_iff (by omega)).mp hw
      rw [hw, if_neg (by decide), if_pos ⟨rfl, rfl⟩, nI_clamp (by omega), nI_clamp (by omega), hR8, zrs, zob (xp_o hp), xp_F17 hp, zrs, zar (xp_a15 hp), zidx_n (by omega) (by decide), (xp_s hp (by omega)).1, zrs, zar (xp_s hp (by omega)).2, zidx_n (by omega) (by decide), (hC.2.2.2.2.2 x hx).2.2.2.2 y hy]
    · rw [Bool.eq_false_iff.mpr hw, if_pos (by decide), if_neg (fun z => by cases z.2)]
  · rw [Bool.eq_false_iff.mpr hi, if_pos (by decide), if_neg (fun z => by cases z.1)]
theorem B_line_e (h : BX P p T R I) (v w : Int32) : EV ρ (d + 30) 209 0 [.ref 0, .int v, .int w] [] (mk c R I L) = some ([.int (pLin P T v w)], mk c R I L) := by
  obtain ⟨hR8, hCI⟩ := h
  have hV := hCI.1.2.1
  have hC := hCI.1.2.2.2.1
  have h12 := hV.1
  have hp := hC.1
  rw [bB_line_0, hR8, zrs, zob (xp_o hp), Pla_dev_e hC, zci, bB_line_8]
  unfold pLin
  by_cases hi : inN v P.1.1 = true
  · obtain ⟨x, hx, rfl⟩ := (inN_iff (by omega)).mp hi
    rw [nI_clamp (by omega), hi, if_neg (by decide)]
    by_cases hw : w < 0
    · rw [if_neg (fun z => Int32.not_le.mpr hw z), if_neg (fun z => z.2 hw)]
    · have hle : (0 : Int32) ≤ w := Int32.not_lt.mp hw
      have hwn : w = nI w.toNatClampNeg := by
        have h1 := Int32.toInt_lt w
        have h0 : (0 : Int) ≤ w.toInt := by rw [Int32.le_iff_toInt_le] at hle; exact hle
        refine Int32.toInt_inj.mp ?_
        have e1 : (w.toNatClampNeg : Int) = w.toInt := by
          unfold Int32.toNatClampNeg
          omega
        rw [nI_toInt (by omega), e1]
      have hlt : w.toNatClampNeg < 2 ^ 31 := by
        have h1 := Int32.toInt_lt w
        unfold Int32.toNatClampNeg
        omega
      rw [if_pos hle, if_pos ⟨rfl, hw⟩]
      generalize w.toNatClampNeg = j at hwn hlt
      subst hwn
      rw [Ben_inLine_e hCI.1 hx hlt, zci, bB_line_26]
  · rw [Bool.eq_false_iff.mpr hi, if_pos (by decide), if_neg (fun z => by cases z.1)]
theorem B_supply_e (h : BX P p T R I) (v w : Int32) : EV ρ (d + 30) 214 0 [.ref 0, .int v, .int w] [] (mk c R I L) = some ([.int (pSup P T v w)], mk c R I L) := by
  obtain ⟨hR8, hCI⟩ := h
  have hV := hCI.1.2.1
  have hC := hCI.1.2.2.2.1
  have hT := hCI.1.2.2.2.2
  have h12 := hV.1
  have h8 := hV.2.1
  have h8s := hV.2.2.1
  have hp := hC.1
  rw [bB_supply_0]
  unfold pSup
  by_cases e0 : v < 0
  · rw [if_pos e0, if_neg (fun z => by unfold inN at z; exact (of_decide_eq_true z).1 e0)]
  · rw [if_neg e0, hR8, zrs, zob (xp_o hp), hC.2.2.2.1]
    by_cases e1 : v < nI P.1.2.2
    · have hi : inN v P.1.2.2 = true := by unfold inN; exact decide_eq_true ⟨e0, Int32.not_le.mpr e1⟩
      obtain ⟨x, hx, rfl⟩ := (inN_iff (by omega)).mp hi
      rw [nI_clamp (by omega), if_pos e1, if_pos hi]
      unfold qSup
      by_cases w0 : w = nI 0
      · rw [if_pos w0, if_pos w0, zidx_n (by omega) (by decide), show I 95 x = eO (T.2.1.2.1 x) from hT.2.2.1.2.1 x (by omega)]
      rw [if_neg w0, if_neg w0]
      by_cases w1 : w = nI 1
      · rw [if_pos w1, if_pos w1, zrs, zob (xp_o hp), zrs, zob (xp_o hp), xp_F10 hp, zrs, hC.2.1, B_holders_e (xp_a8 hp) (by omega) (by decide) (by omega), zci, bB_supply_72]
        congr 3
        congr 1
        refine b_ext (fun i hi => ?_)
        rw [bt_R (by omega), bt_R (by omega)]
        by_cases hid : i < P.1.1
        · rw [(hC.2.2.2.2.1 i hid).2.2.2.2.1, bt_bits (fun k hk => by have := ne_lt hV hid k hk; omega)]
        · rw [decide_eq_false hid]; rfl
      rw [if_neg w1, if_neg w1]
      by_cases w2 : w = nI 2
      · rw [if_pos w2, if_pos w2, zrs, zob (xp_o hp), zrs, zob (xp_o hp), xp_F16 hp, zrs, hC.2.2.1, B_holders_e (xp_a14 hp) (by omega) (by decide) (by omega), zci, bB_supply_91]
        congr 3
        congr 1
        refine b_ext (fun i hi => ?_)
        rw [bt_R (by omega), bt_R (by omega)]
        by_cases hid : i < P.1.2.1
        · rw [(hC.2.2.2.2.2 i hid).2.2.2.1, bt_bits (fun k hk => by have := ofk_lt hV hid (k := 3) (Or.inr rfl) k hk; omega)]
        · rw [decide_eq_false hid]; rfl
      rw [if_neg w2, if_neg w2]
    · rw [if_neg e1, if_neg (fun z => by unfold inN at z; exact (of_decide_eq_true z).2 (Int32.not_lt.mp e1))]
theorem B_taken_e (h : BX P p T R I) (v : Int32) : EV ρ (d + 30) 215 0 [.ref 0, .int v] [] (mk c R I L) = some ([.int (pTak T v)], mk c R I L) := by
  obtain ⟨hR8, hCI⟩ := h
  have hT := hCI.1.2.2.2.2
  rw [bB_taken_0]
  unfold pTak
  by_cases e0 : v < 0
  · rw [if_pos e0, if_neg (fun z => by unfold inN at z; exact (of_decide_eq_true z).1 e0)]
  · rw [if_neg e0]
    by_cases e1 : v < nI 16
    · have hi : inN v 16 = true := by unfold inN; exact decide_eq_true ⟨e0, Int32.not_le.mpr e1⟩
      obtain ⟨x, hx, rfl⟩ := (inN_iff (by decide)).mp hi
      rw [nI_clamp (by omega), if_pos e1, if_pos hi, zidx_n hx (by decide), show I 94 x = eO (T.2.1.1.2 x) from hT.2.2.1.1 x hx]
    · rw [if_neg e1, if_neg (fun z => by unfold inN at z; exact (of_decide_eq_true z).2 (Int32.not_lt.mp e1))]
theorem B_count_e (h : BX P p T R I) (hsy : ∀ j, T.1.2.1.1 j = true → j < P.1.1) (w : Int32) : EV ρ (d + 30) 217 0 [.ref 0, .int w] [] (mk c R I L) = some ([.int (pCnt P T (I 1 1) w)], mk c R I L) := by
  obtain ⟨hR8, hCI⟩ := h
  have hV := hCI.1.2.1
  have hb := hCI.1.1
  have hC := hCI.1.2.2.2.1
  have hT := hCI.1.2.2.2.2
  have hv := hCI.2.1.1.1
  have h12 := hV.1
  have hp := hC.1
  have hJ := hT.2.2.2.2.2.1 rfl
  rw [bB_count_0]
  unfold pCnt
  by_cases w0 : w = nI 0
  · rw [if_pos w0, if_pos w0, hR8, zrs, zob (xp_o hp), hC.2.1]
  rw [if_neg w0, if_neg w0]
  by_cases w1 : w = nI 1
  · rw [if_pos w1, if_pos w1, hR8, zrs, zob (xp_o hp), hC.2.2.1]
  rw [if_neg w1, if_neg w1]
  by_cases w2 : w = nI 2
  · rw [if_pos w2, if_pos w2, hR8, zrs, zob (xp_o hp), hC.2.2.2.1]
  rw [if_neg w2, if_neg w2]
  by_cases w3 : w = nI 3
  · rw [if_pos w3, if_pos w3, hT.2.2.1.2.2.1]
  rw [if_neg w3, if_neg w3]
  by_cases w4 : w = nI 4
  · rw [if_pos w4, if_pos w4, Row_bits_e (q := 100) (xb_r14 hb) hT.2.2.2.2.1, zci, bB_count_102]
    congr 3
    congr 1
    refine b_ext (fun i hi => ?_)
    rw [bt_bits (fun k hk => by have := hv.bnd hV k hk; omega), bt_R (by omega), Bool.eq_iff_iff, decide_eq_true_eq, Bool.and_eq_true, decide_eq_true_eq, decide_eq_true_eq]
    exact hv.2.2.1.2 i
  rw [if_neg w4, if_neg w4]
  by_cases w5 : w = nI 5
  · rw [if_pos w5, if_pos w5, show I 96 1 = nI T.1.2.1.2.length from hT.2.2.2.1.1]
  rw [if_neg w5, if_neg w5]
  by_cases w6 : w = nI 6
  · rw [if_pos w6, if_pos w6, hT.2.2.1.2.2.2]
  rw [if_neg w6, if_neg w6]
  by_cases w7 : w = nI 7
  · rw [if_pos w7, if_pos w7, Ben_linkCount_e hCI.1 hv, zci, bB_count_129]
  rw [if_neg w7, if_neg w7]
  by_cases w8 : w = nI 8
  · rw [if_pos w8, if_pos w8]
    congr 3
    congr 1
    refine b_ext (fun i hi => ?_)
    rw [hJ.2 i hi, bt_R (by omega)]
    cases e : T.1.2.1.1 i with
    | false => simp
    | true =>
      have := hsy i e
      rw [decide_eq_true this, decide_eq_true (show i < 12 by omega)]
  rw [if_neg w8, if_neg w8]
  by_cases w9 : w = nI 9
  · rw [if_pos w9, if_pos w9, hJ.1.2.2.1]
  rw [if_neg w9, if_neg w9]
  by_cases w10 : w = nI 10
  · rw [if_pos w10, if_pos w10]
  rw [if_neg w10, if_neg w10]
end CASK3
