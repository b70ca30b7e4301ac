-- THE COMPONENT'S BENCH: attempts, passes
section CSET
variable {ρ : Nat × (Nat → Int32)} {d : Nat} {c : Nat × Nat} {R : Nat → Nat → Option Nat} {I J : Nat → Nat → Int32} {L : Nat → Nat → Int64} {P : PT} {b p : Nat} {T : TT}
/-- the bench b holds T, with what lies between two calls -/
def CI (P : PT) (b p : Nat) (T : TT) (R : Nat → Nat → Option Nat) (I : Nat → Nat → Int32) : Prop := CX P b p T R I ∧ IV P T ∧ CH P b T I
/-- how many were bound -/
def KN (b : Nat) (I J : Nat → Nat → Int32) (T U : TT) : Prop := T.2.2.2.2 ≤ U.2.2.2.2 ∧ J b 18 = I b 18 + nI (U.2.2.2.2 - T.2.2.2.2)
theorem KN.rf : KN b I I T T := ⟨Nat.le_refl _, by rw [Nat.sub_self]; exact (Int32.add_zero _).symm⟩
theorem KN.tr {K : Nat → Nat → Int32} {U W : TT} (h : KN b I J T U) (g : KN b J K U W) : KN b I K T W := ⟨Nat.le_trans h.1 g.1, by
  rw [g.2, h.2, Int32.add_assoc, nI_add]
  have := h.1
  have := g.1
  rw [show U.2.2.2.2 - T.2.2.2.2 + (W.2.2.2.2 - U.2.2.2.2) = W.2.2.2.2 - T.2.2.2.2 from by omega]⟩
theorem KN.at {U : TT} {c0 : Nat} (h : KN b I J T U) (h0 : c0 ≤ T.2.2.2.2) (hI : I b 18 = nI (T.2.2.2.2 - c0)) : J b 18 = nI (U.2.2.2.2 - c0) := by
  have := h.1
  rw [h.2, hI, nI_add, show T.2.2.2.2 - c0 + (U.2.2.2.2 - T.2.2.2.2) = U.2.2.2.2 - c0 from by omega]
theorem Ben_ends_i (h : CI P b p T R I) {x v : Nat} (hx : x < P.1.1) (hvn : v < P.1.2.1) (h3 : T.1.1.1.1 x ≠ 3) : ∃ J, EV ρ (d + 4) 163 0 [.ref b, .int (nI x), .int (nI v), zU, zU, zU, zU, zU] [] (mk c R I L) = some ([.int (bo (tEnd1 P T x v).1)], mk c R J L) ∧ CI P b p (tEnd1 P T x v).2 R J ∧ FZ [12, 13, 16, 17] b I J ∧ J b 17 = I b 17 ∧ KN b I J T (tEnd1 P T x v).2 := by
  obtain ⟨J, g1, g2, g3, g4, g5, g6⟩ := Ben_endsWith_e (ρ := ρ) (d := d) (c := c) (L := L) h.1 h.2.1 h.2.2 hx hvn h3
  exact ⟨J, g1, ⟨g2, tEnd1_v h.1.2.1 h.2.1 hx hvn h3, g3⟩, g4, g5, (tEnd1_f h.1.2.1 h.2.1.1 hx hvn h3).2.1.2.2.1, g6⟩
theorem Ben_idle_i (h : CI P b p T R I) {x : Nat} (hx : x < P.1.1) (h3 : T.1.1.1.1 x ≠ 3) : ∃ J, EV ρ (d + 2) 169 0 [.ref b, .int (nI x)] [] (mk c R I L) = some ([], mk c R J L) ∧ CI P b p (tIdle T x) R J ∧ FZ [5, 12, 13, 14, 15, 16, 17] b I J ∧ J b = I b := by
  have hV := h.1.2.1
  have h12 := hV.1
  obtain ⟨J, g1, g2, g3, g4⟩ := Ben_makeIdle_e (ρ := ρ) (d := d) (c := c) (L := L) h.1 (h.2.1.1.1.row hV) (x := x) (by omega)
  exact ⟨J, g1, ⟨g2, IV_idle h.2.1 h3, CH_to h.2.2 hV h.2.1 (fun y hy => (st_3 h3 (by decide) y).mp hy) (fun _ _ => rfl) (g3.2 5 (by decide))⟩, g3, g4⟩
theorem Ben_defer_i (h : CI P b p T R I) {x : Nat} (hx : x < P.1.1) (h3 : T.1.1.1.1 x ≠ 3) : ∃ J, EV ρ (d + 2) 168 0 [.ref b, .int (nI x)] [] (mk c R I L) = some ([], mk c R J L) ∧ CI P b p (tDefer T x) R J ∧ FZ [5, 12, 13, 14, 15, 16, 17] b I J ∧ J b = I b := by
  have hV := h.1.2.1
  have h12 := hV.1
  obtain ⟨J, g1, g2, g3, g4⟩ := Ben_defer_e (ρ := ρ) (d := d) (c := c) (L := L) h.1 (h.2.1.1.1.row hV) (x := x) (by omega)
  exact ⟨J, g1, ⟨g2, IV_defer h.2.1 hx h3, CH_to h.2.2 hV h.2.1 (fun y hy => (st_3 h3 (by decide) y).mp hy) (fun _ _ => rfl) (g3.2 5 (by decide))⟩, g3, g4⟩
theorem Ben_attempt_l {x : Nat} (hx : x < P.1.1) : ∀ (n k : Nat) (T : TT) (I : Nat → Nat → Int32), k + n = (P.2.2.2.2.2 x).length → CI P b p T R I → T.1.1.1.1 x ≠ 3 → ∃ J, EV ρ (d + 5) 162 2 [.ref b, .int (nI x), .int (nI k), zU] [] (mk c R I L) = some ([], mk c R J L) ∧ CI P b p (tTryL P x (((P.2.2.2.2.2 x).drop k).filter (fun v => bt T.2.2.1.2 v)) T) R J ∧ FZ [12, 13, 16, 17] b I J ∧ J b 17 = I b 17 ∧ KN b I J T (tTryL P x (((P.2.2.2.2.2 x).drop k).filter (fun v => bt T.2.2.1.2 v)) T) := by
  intro n
  induction n with
  | zero =>
    intro k T I hk h h3
    obtain ⟨⟨hb, hV, hR, hC, hT⟩, hI, hH⟩ := h
    have h' : CI P b p T R I := ⟨⟨hb, hV, hR, hC, hT⟩, hI, hH⟩
    have h12 := hV.1
    have hp := hC.1
    have h8 := rk_len hV hx
    obtain ⟨J, g1, g2, g3, g4⟩ := Ben_idle_i (ρ := ρ) (d := d + 2) (c := c) (L := L) h' hx h3
    rw [List.drop_of_length_le (by omega), List.filter_nil, bBen_attempt_2, zob (xb_o hb), hR, zrs, zob (xp_o hp), xp_F19 hp, zrs, zar (xp_a37 hp), zidx_n (by omega) (by decide), (hC.2.2.2.2.1 x hx).2.2.2.2.2.1, if_pos (nI_le (by omega) (by omega)), zob (xb_o hb), g1, zcv, bBen_attempt_56]
    exact ⟨J, rfl, g2, g3.mo (by decide), by rw [g4], Nat.le_refl _, by rw [g4]; exact KN.rf.2⟩
  | succ n ih =>
    intro k T I hk h h3
    obtain ⟨⟨hb, hV, hR, hC, hT⟩, hI, hH⟩ := h
    have h' : CI P b p T R I := ⟨⟨hb, hV, hR, hC, hT⟩, hI, hH⟩
    have h12 := hV.1
    have hnv := hV.2.1
    have hp := hC.1
    have h8 := rk_len hV hx
    have hkl : k < (P.2.2.2.2.2 x).length := by omega
    have hvn := (((hV.2.2.2.2.2.2.2 x hx).2 _).mp (List.getElem_mem hkl)).1
    have hgv := (hC.2.2.2.2.1 x hx).2.2.2.2.2.2 k _ (List.getElem?_eq_getElem hkl)
    rw [List.drop_eq_getElem_cons hkl]
    generalize (P.2.2.2.2.2 x)[k] = v at hvn hgv
    rw [bBen_attempt_2, zob (xb_o hb), hR, zrs, zob (xp_o hp), xp_F19 hp, zrs, zar (xp_a37 hp), zidx_n (by omega) (by decide), (hC.2.2.2.2.1 x hx).2.2.2.2.2.1, if_neg (nI_ge (by omega) (by omega)), zob (xb_o hb), zrs, zob (xp_o hp), xp_F18 hp, zrs, zar (xp_a24 hp), zidx_n (by omega) (by decide), (xp_k hp (by omega)).1, zrs, zar (xp_k hp (by omega)).2, zidx_n (by omega) (by decide), hgv, zob (xb_o hb), Ben_isLoaded_e hb hT (by omega), zci, bBen_attempt_32]
    cases e : bt T.2.2.1.2 v with
    | false =>
      rw [if_pos (by decide), List.filter_cons_of_neg (by simp [e]), nI_add]
      exact ih (k + 1) T I (by omega) h' h3
    | true =>
      obtain ⟨K, g1, g2, g3, g4, g5⟩ := Ben_ends_i (ρ := ρ) (d := d) (c := c) (L := L) h' hx hvn h3
      obtain ⟨q1, q2, q3⟩ := tEnd1_f hV hI.1 hx hvn h3
      rw [if_neg (by decide), List.filter_cons_of_pos (by simp [e]), zob (xb_o hb), g1, zci, bBen_attempt_41]
      unfold tTryL
      cases e2 : (tEnd1 P T x v).1 with
      | true =>
        rw [if_neg (by decide), if_pos rfl]
        exact ⟨K, rfl, g2, g3, g4, g5⟩
      | false =>
        rw [if_pos (by decide), if_neg (by decide), nI_add]
        obtain ⟨J, j1, j2, j3, j4, j5⟩ := ih (k + 1) _ K (by omega) g2 (q3 e2)
        rw [q2.1] at j2 j5
        exact ⟨J, j1, j2, g3.tr j3, j4.trans g4, g5.tr j5⟩
theorem Ben_attempt_e (h : CI P b p T R I) {x : Nat} (hx : x < P.1.1) (h3 : T.1.1.1.1 x ≠ 3) : ∃ J, EV ρ (d + 5) 162 0 [.ref b, .int (nI x), zU, zU] [] (mk c R I L) = some ([], mk c R J L) ∧ CI P b p (tTry P T x) R J ∧ FZ [12, 13, 16, 17] b I J ∧ J b 17 = I b 17 ∧ KN b I J T (tTry P T x) := by
  rw [bBen_attempt_0]
  have := Ben_attempt_l (ρ := ρ) (d := d) (c := c) (L := L) hx (P.2.2.2.2.2 x).length 0 T I (by omega) h h3
  rw [List.drop_zero] at this
  exact this
theorem Ben_settle_p (l : List Nat) (hl : ∀ y ∈ l, y < P.1.1) (v2 v3 : Int32) : ∀ (n k : Nat) (T : TT) (I : Nat → Nat → Int32), k + n = l.length → RowIs I (b + 12) l → CI P b p T R I → ∃ J, EV ρ (d + 6) 170 44 [.ref b, zU, .int v2, .int v3, .int (nI k)] [] (mk c R I L) = EV ρ (d + 6) 170 44 [.ref b, zU, .int v2, .int v3, .int (nI l.length)] [] (mk c R J L) ∧ RowIs J (b + 12) l ∧ CI P b p (tPass P (l.drop k) T) R J ∧ FZ [12, 13, 16, 17] b I J ∧ J b 17 = I b 17 ∧ KN b I J T (tPass P (l.drop k) T) := by
  intro n
  induction n with
  | zero =>
    intro k T I hk hr h
    rw [List.drop_of_length_le (by omega), show k = l.length from by omega]
    exact ⟨I, rfl, hr, h, FZ.rf, rfl, KN.rf⟩
  | succ n ih =>
    intro k T I hk hr h
    obtain ⟨⟨hb, hV, hR, hC, hT⟩, hI, hH⟩ := h
    have h' : CI P b p T R I := ⟨⟨hb, hV, hR, hC, hT⟩, hI, hH⟩
    have h12 := hV.1
    have hkl : k < l.length := by omega
    have hy := hl _ (List.getElem_mem hkl)
    have hgv := hr.2.2 k _ (List.getElem?_eq_getElem hkl)
    have hl12 := hr.2.1
    rw [List.drop_eq_getElem_cons hkl]
    generalize l[k] = y at hy hgv
    have hst := hI.1.1.1 y
    obtain ⟨rw1, rw2, rw3, rw4⟩ := xb_r12 hb
    rw [bBen_settle_44, zob (xb_o hb), xb_F12 hb, zrs, zob rw1, hr.1, if_neg (nI_ge hkl (by omega)), zob (xb_o hb), zob (xb_o hb), zrs, zob rw1, rw2, zrs, zar rw3, zidx_n (by omega) (by decide), hgv, xb_F2 hb, zrs, zar (xb_a1 hb), zidx_n (by omega) (by decide), (hT.1 y (by omega)).1]
    unfold tPass
    by_cases e : T.1.1.1.1 y = 2
    · obtain ⟨K, g1, g2, g3, g4, g5⟩ := Ben_attempt_e (ρ := ρ) (d := d) (c := c) (L := L) h' hy (by omega)
      rw [if_pos (by rw [e]), if_pos e, zob (xb_o hb), zrs, zob rw1, rw2, zrs, zar rw3, zidx_n (by omega) (by decide), hgv, zob (xb_o hb), g1, zcv, bBen_settle_89, nI_add]
      obtain ⟨J, j1, j2, j3, j4, j5, j6⟩ := ih (k + 1) _ K (by omega) (RowIs_to hr (g3.2 12 (by decide)) (g3.2 13 (by decide))) g2
      exact ⟨J, j1, j2, j3, g3.tr j4, j5.trans g4, g5.tr j6⟩
    · rw [if_neg (by rw [nI_eq (by omega) (by decide)]; exact e), if_neg e, bBen_settle_89, nI_add]
      exact ih (k + 1) T I (by omega) hr h'
theorem Ben_settle_o {c0 : Nat} : ∀ (n k had : Nat) (T : TT) (I : Nat → Nat → Int32), k + n = 13 → c0 ≤ had → had ≤ T.2.2.2.2 → T.2.2.2.2 + 12 < 2 ^ 30 + T.1.2.2.1.length → I b 18 = nI (T.2.2.2.2 - c0) → CI P b p T R I → ∃ J, EV ρ (d + 6) 170 15 [.ref b, .int (bo (decide (had < T.2.2.2.2))), .int (nI k), zU, zU] [] (mk c R I L) = some ([], mk c R J L) ∧ CI P b p (tSettle P n had T) R J ∧ FZ [16, 17] b I J ∧ J b 17 = I b 17 ∧ KN b I J T (tSettle P n had T) := by
  intro n
  induction n with
  | zero =>
    intro k had T I hk h0 h1 hc h18 h
    rw [bBen_settle_15, if_pos (nI_lt (by omega) (by omega))]
    exact ⟨I, rfl, h, FZ.rf, rfl, KN.rf⟩
  | succ n ih =>
    intro k had T I hk h0 h1 hc h18 h
    obtain ⟨⟨hb, hV, hR, hC, hT⟩, hI, hH⟩ := h
    have h' : CI P b p T R I := ⟨⟨hb, hV, hR, hC, hT⟩, hI, hH⟩
    have hb12 := bnd_12 hV hI.1.1
    rw [bBen_settle_15, if_neg (i1_ge (by decide) (by omega))]
    unfold tSettle
    by_cases e : had < T.2.2.2.2
    · obtain ⟨K, g1, g2, g3⟩ := Row_copyFrom_e (ρ := ρ) (d := d + 4) (c := c) (R := R) (L := L) (xb_r12 hb) (xb_r10 hb) (by omega) (by omega) (by omega) hT.2.2.2.1
      have hZ : FZ [5, 16, 17] b I K := FZ.rf.eo (m := 12) (by decide) (by decide) g3
      have hne : ∀ q, q ≠ b + 12 → q ≠ b + 12 + 1 → K q = I q := fun q e1 e2 => g3 q (by simp only [List.mem_cons, List.not_mem_nil, or_false]; omega)
      have hge := xb_ge hb
      have hKb : K b = I b := hne b (by omega) (by omega)
      have hK : CR b T K := CR_to hT (fun k hk => hne _ (by rintro e; simp only [List.mem_cons, List.not_mem_nil, or_false] at hk; omega) (by rintro e; simp only [List.mem_cons, List.not_mem_nil, or_false] at hk; omega)) (by rw [hKb]) (by rw [hKb]) (by rw [hKb]) (fun _ => ⟨hne _ (by omega) (by omega), hne _ (by omega) (by omega)⟩) (by
        have := xb_104 hb 12 (by omega)
        have := xb_104 hb 13 (by omega)
        rw [hne 104 (by omega) (by omega)])
      have hKI : CI P b p T R K := ⟨CX_to h'.1 hK hZ.1, hI, CH_to hH hV hI (fun _ z => z) (fun _ _ => rfl) (hZ.2 5 (by decide))⟩
      obtain ⟨M, m1, m2, m3, m4, m5, m6⟩ := Ben_settle_p (ρ := ρ) (d := d) (c := c) (L := L) T.1.2.1.2 hI.1.1.2.1.2 (nI k) (I b 18) T.1.2.1.2.length 0 T K (by omega) g2 hKI
      rw [List.drop_zero] at m3 m6
      obtain ⟨f1, f2⟩ := tPass_f hV T.1.2.1.2 T hI.1.1.2.1.2 hI.1
      have hbp := bnd_12 hV f1.1
      have f21 := f2.2.1
      have f22 := f2.2.2.1
      have hM18 := m6.at (c0 := c0) (by omega) (by rw [hKb]; exact h18)
      rw [if_pos e, show bo (decide (had < T.2.2.2.2)) = nI 1 from by rw [decide_eq_true e]; rfl, if_neg (by decide), zob (xb_o hb), zob (xb_o hb), zob (xb_o hb), xb_F11 hb, zrs, xb_F12 hb, zrs, zob (xb_r12 hb).1, g1, zcv, bBen_settle_41, m1, bBen_settle_44, zob (xb_o hb), xb_F12 hb, zrs, zob (xb_r12 hb).1, m2.1, if_pos (nI_le (Nat.le_refl _) (by have := m2.2.1; omega)), zob (xb_o hb), hM18, h18, nI_add]
      obtain ⟨J, j1, j2, j3, j4, j5⟩ := ih (k + 1) T.2.2.2.2 _ M (by omega) (by omega) f22 (by omega) hM18 m3
      have hfin : ∃ J, EV ρ (d + 6) 170 15 [.ref b, .int (bo (decide (T.2.2.2.2 < (tPass P T.1.2.1.2 T).2.2.2.2))), .int (nI (k + 1)), zU, zU] [] (mk c R M L) = some ([], mk c R J L) ∧ CI P b p (tSettle P n T.2.2.2.2 (tPass P T.1.2.1.2 T)) R J ∧ FZ [16, 17] b I J ∧ J b 17 = I b 17 ∧ KN b I J T (tSettle P n T.2.2.2.2 (tPass P T.1.2.1.2 T)) := ⟨J, j1, j2, (hZ.mo (by decide)).tr ((m4.mo (by decide)).tr j3), by rw [j4, m5, hKb], by
        have hk2 : KN b I M T (tPass P T.1.2.1.2 T) := ⟨m6.1, by rw [m6.2, hKb]⟩
        exact hk2.tr j5⟩
      by_cases e2 : T.2.2.2.2 < (tPass P T.1.2.1.2 T).2.2.2.2
      · rw [if_neg (nI_ge (by omega) (by omega))]
        rw [decide_eq_true e2] at hfin
        exact hfin
      · rw [if_pos (nI_le (by omega) (by omega))]
        rw [decide_eq_false e2] at hfin
        exact hfin
    · rw [if_neg e, show bo (decide (had < T.2.2.2.2)) = nI 0 from by rw [decide_eq_false e]; rfl, if_pos (show nI 0 = 0 from rfl)]
      exact ⟨I, rfl, h', FZ.rf, rfl, KN.rf⟩
theorem Ben_settle_e (h : CI P b p T R I) {c0 : Nat} (h0 : c0 ≤ T.2.2.2.2) (hc : T.2.2.2.2 + 12 < 2 ^ 30 + T.1.2.2.1.length) (h18 : I b 18 = nI (T.2.2.2.2 - c0)) : ∃ J, EV ρ (d + 6) 170 0 [.ref b, zU, zU, zU, zU] [] (mk c R I L) = some ([], mk c R J L) ∧ CI P b p (tSettle P 13 c0 T) R J ∧ FZ [16, 17] b I J ∧ J b 17 = I b 17 ∧ KN b I J T (tSettle P 13 c0 T) := by
  have hb := h.1.1
  have hb12 := bnd_12 h.1.2.1 h.2.1.1.1
  have hm := Ben_settle_o (ρ := ρ) (d := d) (c := c) (L := L) 13 0 c0 T I (by omega) (Nat.le_refl _) h0 hc h18 h
  rw [bBen_settle_0, zob (xb_o hb), h18]
  by_cases e : c0 < T.2.2.2.2
  · rw [if_neg (show ¬ nI (T.2.2.2.2 - c0) ≤ 0 from nI_ge (show 0 < T.2.2.2.2 - c0 by omega) (by omega))]
    rw [decide_eq_true e] at hm
    exact hm
  · rw [if_pos (show nI (T.2.2.2.2 - c0) ≤ 0 from nI_le (show T.2.2.2.2 - c0 ≤ 0 by omega) (by decide))]
    rw [decide_eq_false e] at hm
    exact hm
end CSET
