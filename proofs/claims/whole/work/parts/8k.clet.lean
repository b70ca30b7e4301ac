-- THE COMPONENT'S BENCH: letting go
theorem IV_gone {P : PT} {T : TT} {x : Nat} (h : IV P T) (hx : x < P.1.1) (hn : lean P T x = none) : IV P (tGone T x) := by
  refine ⟨TI_gone h.1 hx, LI_gone h.2.1, LB_gone h.1.1 h.2.2.1 hn, GI_gone h.2.2.2.1 (h.1.1.2.2.2.2.2.2.2.1 x), fun y hy => ?_⟩
  rw [(tGone_f T x).2.1] at hy
  unfold va_up at hy
  split at hy
  · cases hy
  · exact h.2.2.2.2 y hy
theorem CH_gone {P : PT} {b : Nat} {T U : TT} {I J : Nat → Nat → Int32} (h : CH P b T I) (hV : PV P) (hU : IV P U) (hs : ∀ y, U.1.1.1.1 y = 3 → T.1.1.1.1 y = 3) (hc : ∀ y, U.1.1.1.1 y = 3 → T.2.1.1.1 y = U.2.1.1.1 y) (hJ : J (b + 5) = I (b + 5)) : CH P b U J := fun x hx h3 => by
  rw [hJ, h x hx (hs x h3)]
  obtain ⟨A, B, e⟩ := List.append_of_mem ((hU.1.1.2.2.1.2 x).mpr ⟨hx, h3⟩)
  have hl := bnd_12 hV hU.1.1
  rw [e] at hl
  simp at hl
  rw [hgF_to (U := T) hV hU hc 13 13 x A B e (by omega) (by omega)]
section CLET
variable {ρ : Nat × (Nat → Int32)} {d : Nat} {c : Nat × Nat} {R : Nat → Nat → Option Nat} {I J : Nat → Nat → Int32} {L : Nat → Nat → Int64} {P : PT} {b p : Nat} {T : TT}
theorem Ben_lean_e (h : CX P b p T R I) (hv : TV P T) {x : Nat} (hx : x < P.1.1) : EV ρ (d + 1) 174 0 [.ref b, .int (nI x), zU, zU] [] (mk c R I L) = some ([.int (eO (lean P T x))], mk c R I L) := by
  obtain ⟨hb, hV, hR, hC, hT⟩ := h
  have h12 := hV.1
  have hp := hC.1
  obtain ⟨rw1, rw2, rw3, rw4⟩ := xb_r14 hb
  have hr := hT.2.2.2.2.1
  have hl12 := hr.2.1
  have loop : ∀ k, k ≤ T.1.2.2.1.length → EV ρ (d + 1) 174 10 [.ref b, .int (nI x), .int (nI k - nI 1), zU] [] (mk c R I L) = some ([.int (eO ((T.1.2.2.1.take k).reverse.find? (hg P T x)))], mk c R I L) := by
    intro k
    induction k with
    | zero =>
      intro _
      rw [bBen_latestLeaningOn_10, if_pos (by decide)]
      rfl
    | succ k ih =>
      intro hk
      have hkl : k < T.1.2.2.1.length := by omega
      have hy := ((hv.2.2.1.2 _).mp (List.getElem_mem hkl)).1
      have hgv := hr.2.2 k _ (List.getElem?_eq_getElem hkl)
      have et : T.1.2.2.1.take (k + 1) = T.1.2.2.1.take k ++ [T.1.2.2.1[k]] := by rw [List.take_succ, List.getElem?_eq_getElem hkl]; rfl
      rw [et, List.reverse_append, List.reverse_singleton, List.singleton_append, List.find?_cons]
      generalize T.1.2.2.1[k] = y at hy hgv
      rw [bBen_latestLeaningOn_10, pk_sub (by omega), show k + 1 - 1 = k from rfl, if_neg (nI_pos (by omega)), zob (xb_o hb), xb_F13 hb, zrs, zob rw1, rw2, zrs, zar rw3, zidx_n (by omega) (by decide), zob (xb_o hb), hR, zrs, zob (xp_o hp), xp_F6 hp, zrs, hgv, zar (xp_a4 hp), zidx_n (by omega) (by decide), (hC.2.2.2.2.1 y hy).1]
      by_cases e1 : P.2.1 y = some x
      · rw [if_pos ((eO_i (pa_lt hV hy) (by omega)).mpr e1), show hg P T x y = true from by unfold hg; simp [e1]]
        rfl
      · rw [if_neg (fun z => e1 ((eO_i (pa_lt hV hy) (by omega)).mp z)), zob (xb_o hb), xb_F7 hb, zrs, zar (xb_a6 hb), zidx_n (by omega) (by decide), (hT.2.1 y (by omega)).2.2.2]
        cases e2 : bt (T.2.1.1.1 y) x with
        | true =>
          rw [if_pos ((hs_b (by omega) _).mpr e2), show hg P T x y = true from by unfold hg; simp [e2]]
          rfl
        | false =>
          rw [if_neg (fun z => by rw [(hs_b (by omega) _).mp z] at e2; cases e2), show hg P T x y = false from by unfold hg; simp [e1, e2], i1_m]
          exact ih (by omega)
  have := loop T.1.2.2.1.length (Nat.le_refl _)
  rw [List.take_length] at this
  rw [bBen_latestLeaningOn_0, zob (xb_o hb), xb_F13 hb, zrs, zob rw1, hr.1]
  exact this
/-- one is gone -/
theorem Ben_gone (h : CI P b p T R I) {x : Nat} (hx : x < P.1.1) (h3 : T.1.1.1.1 x = 3) (hn : lean P T x = none) {g : List Nat} (hG : RowIs I (b + 16) g) (hl : g.length < 12) : ∃ J, zcV (EV ρ (d + 3) 175 0 [.ref b, .int (nI x), .int (nI (T.1.1.1.2 x)), .int (nI (P.2.2.2.1 (T.1.1.1.2 x)).length), zU, zU] [] (mk c R I L)) (fun s6 => EV ρ (d + 4) 173 83 [.ref b, .int (nI x), zU, zU, .int (nI (T.1.1.1.2 x))] [] s6) = some ([], mk c R J L) ∧ CI P b p (tGone T x) R J ∧ RowIs J (b + 16) (g ++ [x]) ∧ FZ [5, 12, 13] b I J ∧ J b 18 = I b 18 := by
  have h' := h
  obtain ⟨⟨hb, hV, hR, hC, hT⟩, hI, hH⟩ := h
  have h12 := hV.1
  have hge := xb_ge hb
  have hv := hI.1.1
  obtain ⟨hby, htk⟩ := hI.1.2.2 x h3
  obtain ⟨r1, r2, r3, r4, r5, r6, r7, r8, r9, r10, r11, r12⟩ := tRelease_f T x
  have hIG := IV_gone hI hx hn
  obtain ⟨K1, a1, a2, a3, a4, a5⟩ := Ben_release_e (ρ := ρ) (d := d) (c := c) (L := L) (n := (P.2.2.2.1 (T.1.1.1.2 x)).length) h'.1 (show x < 12 by omega) hby (Nat.le_refl _) (by rw [List.take_length]; exact htk)
  obtain ⟨K2, b1, b2, b3, b4⟩ := Ben_logZ (ρ := ρ) (d := d + 1) (c := c) (L := L) a2 (nI 4) (nI x) (nI (T.1.1.1.2 x))
  have hC2 := b2.2.2.2.2
  have hTR := TV_release (x := x) hv
  obtain ⟨K3, d1, d2, d3⟩ := Row_drop_e (ρ := ρ) (d := d + 2) (c := c) (R := R) (L := L) (xb_r14 hb) hC2.2.2.2.2.1 (fun y hy => by have := hTR.bnd hV y hy; omega) (v := x) (by omega)
  have hC3 : CR b (u_bnd (tLog (tRelease T x) (nI 4) (nI x) (nI (T.1.1.1.2 x))) ((tRelease T x).1.2.2.1.filter (· ≠ x))) K3 := CR_bnd (n := (tRelease T x).2.2.2.2) hb hC2 d3 d2
  have hZ3 : FZ [5, 12, 13, 16, 17] b I K3 := ((a3.tr b3)).eo (m := 14) (by decide) (by decide) d3
  have hb3 : K3 b = K2 b := d3 b (by simp only [List.mem_cons, List.not_mem_nil, or_false]; omega)
  have hG3 : RowIs K3 (b + 16) g := RowIs_to hG (hZ3.2 16 (by decide)) (hZ3.2 17 (by decide))
  rw [a1, zcv, bBen_letGo_83, zob (xb_o hb), xb_F1 hb, zrs, zob (xb_oj hb), b1, zcv, bBen_letGo_94, zob (xb_o hb), xb_F13 hb, zrs, zob (xb_r14 hb).1, d1, zcv, bBen_letGo_102, zob (xb_o hb), xb_F14 hb, zrs, zob (xb_r16 hb).1, Row_append_e (xb_r16 hb) hG3 hl, zcv]
  have hE : Eo [b + 16, b + 16 + 1] K3 (z2 (z2 K3 (b + 16 + 1) g.length (nI x)) (b + 16) 1 (nI (g.length + 1))) := (Eo.rf.z2 (by simp)).z2 (by simp)
  have hG4 := RowIs_app hG3 hl x
  have hZ4 : FZ [5, 12, 13] b I (z2 (z2 K3 (b + 16 + 1) g.length (nI x)) (b + 16) 1 (nI (g.length + 1))) := (hZ3.mo (by decide)).eo (m := 16) (by decide) (by decide) hE
  show ∃ J, EV ρ (d + 4) 173 110 [.ref b, .int (nI x), zU, zU, zU] [] (mk c R (z2 (z2 K3 (b + 16 + 1) g.length (nI x)) (b + 16) 1 (nI (g.length + 1))) L) = _ ∧ _
  generalize z2 (z2 K3 (b + 16 + 1) g.length (nI x)) (b + 16) 1 (nI (g.length + 1)) = K4 at hE hG4 hZ4 ⊢
  have hne : ∀ q, q ≠ b + 16 → q ≠ b + 16 + 1 → K4 q = K3 q := fun q e1 e2 => hE q (by simp only [List.mem_cons, List.not_mem_nil, or_false]; omega)
  have hb4 : K4 b = K2 b := by rw [hne b (by omega) (by omega), hb3]
  have hC4 : CR b (u_bnd (tLog (tRelease T x) (nI 4) (nI x) (nI (T.1.1.1.2 x))) ((tRelease T x).1.2.2.1.filter (· ≠ x))) K4 := CR_to hC3 (fun k hk => hne _ (by rintro e; simp only [List.mem_cons, List.not_mem_nil, or_false] at hk; omega) (by rintro e; simp only [List.mem_cons, List.not_mem_nil, or_false] at hk; omega)) (by rw [hne b (by omega) (by omega)]) (by rw [hne b (by omega) (by omega)]) (by rw [hne b (by omega) (by omega)]) (fun _ => ⟨hne _ (by omega) (by omega), hne _ (by omega) (by omega)⟩) (by
    have := xb_104 hb 16 (by omega)
    have := xb_104 hb 17 (by omega)
    rw [hne 104 (by omega) (by omega)])
  have hC5 : CR b (u_sy (u_bnd (tLog (tRelease T x) (nI 4) (nI x) (nI (T.1.1.1.2 x))) ((tRelease T x).1.2.2.1.filter (· ≠ x))) (va_up T.1.2.1.1 x false)) (z2 K4 b 17 (K4 b 17 &&& ((nI 1 <<< (nI x &&& 31)) ^^^ (-1)))) := CR_sy hb hC4 (fun e j hj => by
    have hs := (hC4.2.2.2.2.2.1 e).2 j hj
    rw [b_not (by omega) hj, show K4 b 17 = K4 86 17 from by rw [e], hs, show (u_bnd (tLog (tRelease T x) (nI 4) (nI x) (nI (T.1.1.1.2 x))) ((tRelease T x).1.2.2.1.filter (· ≠ x))).1.2.1.1 = T.1.2.1.1 from r12]
    unfold va_up
    by_cases ej : j = x
    · simp [ej]
    · simp [ej])
  have hZ5 : FZ [5, 12, 13] b I (z2 K4 b 17 (K4 b 17 &&& ((nI 1 <<< (nI x &&& 31)) ^^^ (-1)))) := hZ4.z0 (by decide)
  rw [bBen_letGo_110, zob (xb_o hb), zob (xb_o hb), bBen_letGo_124, zob (xb_o hb)]
  have hG5 : RowIs (z2 K4 b 17 (K4 b 17 &&& ((nI 1 <<< (nI x &&& 31)) ^^^ (-1)))) (b + 16) (g ++ [x]) := RowIs_to hG4 (z2_ne (by omega)) (z2_ne (by omega))
  obtain ⟨J, j1, j2, j3, j4⟩ := Ben_defer_e (ρ := ρ) (d := d + 1) (c := c) (L := L) (CX_to h'.1 hC5 hZ5.1) (by exact hTR.row hV) (x := x) (by omega)
  have hF : FZ [5, 12, 13] b I J := hZ5.tr (j3.mo (by decide))
  have eG : tDefer (u_sy (u_bnd (tLog (tRelease T x) (nI 4) (nI x) (nI (T.1.1.1.2 x))) ((tRelease T x).1.2.2.1.filter (· ≠ x))) (va_up T.1.2.1.1 x false)) x = tGone T x := by
    unfold tGone tDefer
    show u_row (u_bnd (u_st (u_sy (tLog (tRelease T x) (nI 4) (nI x) (nI (T.1.1.1.2 x))) (va_up T.1.2.1.1 x false)) (va_up (tRelease T x).1.1.1.1 x 2)) ((tRelease T x).1.2.2.1.filter (· ≠ x))) (if x ∈ (tRelease T x).1.2.1.2 then (tRelease T x).1.2.1.2 else (tRelease T x).1.2.1.2 ++ [x]) = _
    rw [r2, r4, r5]
  rw [eG] at j2
  rw [j1, zcv, bBen_letGo_129]
  refine ⟨J, rfl, ⟨j2, hIG, CH_gone hH hV hIG (fun y hy => ?_) (fun y hy => ?_) (hF.2 5 (by decide))⟩, RowIs_to hG5 (j3.2 16 (by decide)) (j3.2 17 (by decide)), hF, ?_⟩
  · rw [(tGone_f T x).2.1] at hy
    unfold va_up at hy
    split at hy
    · cases hy
    · exact hy
  · rw [(tGone_f T x).2.1] at hy
    rw [(tGone_f T x).2.2.2.2.2.2.1]
    have : y ≠ x := fun z => by rw [z, va_up_self] at hy; cases hy
    rw [va_up_ne _ _ this]
  · rw [j4, z2a, if_neg (by omega), hb4, b4, a5]
theorem Ben_letGo_l : ∀ (n e k : Nat) (W : TT × List Nat) (I : Nat → Nat → Int32) (x : Nat) (A B : List Nat), n ≤ e → k + n = 13 → CI P b p W.1 R I → W.1.1.2.2.1 = A ++ x :: B → B.length < n → RowIs I (b + 16) W.2 → W.2.length + W.1.1.2.2.1.length ≤ 12 → ∃ J, EV ρ (e + 4) 173 0 [.ref b, .int (nI x), .int (nI k), zU, zU] [] (mk c R I L) = some ([], mk c R J L) ∧ CI P b p (tLet P n W x).1 R J ∧ RowIs J (b + 16) (tLet P n W x).2 ∧ FZ [5, 12, 13] b I J ∧ J b 18 = I b 18
  | 0, _, _, _, _, _, _, B, _, _, _, _, h, _, _ => by omega
  | n + 1, e, k, W, I, x, A, B, hne, hk, h, hb, hn, hG, hl => by
    obtain ⟨e', rfl⟩ : ∃ e', e = e' + 1 := ⟨e - 1, by omega⟩
    have hB := h.1.1
    have hV := h.1.2.1
    have h12 := hV.1
    have hT := h.2.1.1
    have hx3 := (hT.1.2.2.1.2 x).mp (by rw [hb]; simp)
    have hx := hx3.1
    have hbl : B.length ≤ 12 := by
      have h1 := bnd_12 hV hT.1
      rw [hb] at h1
      simp at h1
      omega
    have loop : ∀ (m j : Nat) (U : TT × List Nat) (I : Nat → Nat → Int32) (C : List Nat), j + m = 12 → CI P b p U.1 R I → U.1.1.2.2.1 = A ++ x :: C → C.length < n + 1 → C.length ≤ m → RowIs I (b + 16) U.2 → U.2.length + U.1.1.2.2.1.length ≤ 12 → ∃ J, EV ρ (e' + 1 + 4) 173 26 [.ref b, .int (nI x), .int (nI k), .int (eO (lean P U.1 x)), .int (nI j)] [] (mk c R I L) = EV ρ (e' + 1 + 4) 173 26 [.ref b, .int (nI x), .int (nI k), .int (-1), .int (nI 12)] [] (mk c R J L) ∧ CI P b p (lgLoop (tLet P n) (fun T => lean P T x) m U).1 R J ∧ RowIs J (b + 16) (lgLoop (tLet P n) (fun T => lean P T x) m U).2 ∧ FZ [5, 12, 13] b I J ∧ J b 18 = I b 18 ∧ (∃ C', (lgLoop (tLet P n) (fun T => lean P T x) m U).1.1.2.2.1 = A ++ x :: C') ∧ lean P (lgLoop (tLet P n) (fun T => lean P T x) m U).1 x = none ∧ (lgLoop (tLet P n) (fun T => lean P T x) m U).2.length + (lgLoop (tLet P n) (fun T => lean P T x) m U).1.1.2.2.1.length ≤ 12 := by
      have stop : ∀ (j : Nat) (I : Nat → Nat → Int32) (T : TT), CI P b p T R I → T.1.1.1.1 x = 3 → j ≤ 12 → EV ρ (e' + 1 + 4) 173 26 [.ref b, .int (nI x), .int (nI k), .int (-1), .int (nI j)] [] (mk c R I L) = EV ρ (e' + 1 + 4) 173 26 [.ref b, .int (nI x), .int (nI k), .int (-1), .int (nI 12)] [] (mk c R I L) := fun j I T hI h3 hj => by
        have hC := hI.1.2.2.2.1
        have hnv := (hI.2.1.1.2.2 x h3).1
        have h8 := hV.2.1
        rw [bBen_letGo_26, bBen_letGo_26, if_pos (show nI 12 ≤ nI 12 from nI_le (Nat.le_refl _) (by decide)), zob (xb_o hB), zob (xb_o hB)]
        by_cases e12 : 12 ≤ j
        · rw [if_pos (nI_le e12 (by omega))]
        · rw [if_neg (nI_ge (by omega) (by decide)), if_pos rfl]
      intro m
      induction m with
      | zero =>
        intro j U I C hj hU hbU hC hm hG hl
        obtain rfl : C = [] := List.length_eq_zero_iff.mp (by omega)
        cases e : lean P U.1 x with
        | none =>
          obtain rfl : j = 12 := by omega
          exact ⟨I, rfl, hU, hG, FZ.rf, rfl, ⟨[], hbU⟩, e, hl⟩
        | some o =>
          obtain ⟨B1, B2, e2⟩ := lean_b hV hU.2.1.1.1 hU.2.1.2.1 hbU e
          cases B1 <;> cases e2
      | succ m ih =>
        intro j U I C hj hU hbU hC hm hG hl
        have hU3 := (hU.2.1.1.1.2.2.1.2 x).mp (by rw [hbU]; simp)
        unfold lgLoop
        cases e : lean P U.1 x with
        | none => exact ⟨I, stop j I U.1 hU hU3.2 (by omega), hU, hG, FZ.rf, rfl, ⟨C, hbU⟩, e, hl⟩
        | some o =>
          dsimp only
          obtain ⟨B1, B2, e2⟩ := lean_b hV hU.2.1.1.1 hU.2.1.2.1 hbU e
          have e3 : U.1.1.2.2.1 = (A ++ x :: B1) ++ o :: B2 := by rw [hbU, e2]; simp
          have hlen : B1.length + B2.length + 1 = C.length := by rw [e2]; simp; omega
          have ho := ((hU.2.1.1.1.2.2.1.2 o).mp (lean_s e).1).1
          obtain ⟨k1, k2, ⟨B', k3, k4, G, k5, k6, k7⟩, -⟩ := tLet_f hV n U o (A ++ x :: B1) B2 hU.2.1.1 hU.2.1.2.1 e3 (by omega)
          obtain ⟨J, j1, j2, j3, j4, j5⟩ := Ben_letGo_l n e' (k + 1) U I o (A ++ x :: B1) B2 (by omega) (by omega) hU e3 (by omega) hG hl
          have hsl := k3.length_le
          rw [bBen_letGo_26, if_neg (nI_ge (by omega) (by decide)), eO_s, if_neg (nI_m1 (by omega)), zob (xb_o hB), nI_add, j1, zcv, bBen_letGo_46, zob (xb_o hB), Ben_lean_e j2.1 k1.1 hx, zci, bBen_letGo_51, nI_add]
          obtain ⟨J2, q1, q2, q3, q4, q5, q6⟩ := ih (j + 1) (tLet P n U o) J (B1 ++ B') (by omega) j2 (by rw [k4]; simp) (by rw [List.length_append]; omega) (by rw [List.length_append]; omega) j3 (by
            rw [k5, k4]
            rw [e3] at hl
            simp only [List.length_append, List.length_cons] at hl ⊢
            omega)
          exact ⟨J2, q1, q2, q3, j4.tr q4, q5.trans j5, q6⟩
    obtain ⟨J, q1, q2, q3, q4, q5, ⟨C', q6⟩, q7, q8⟩ := loop 12 0 W I B (by omega) h hb hn hbl hG hl
    have hT0 := h.1.2.2.2.2
    rw [bBen_letGo_0, if_neg (i1_ge (by decide) (by omega)), zob (xb_o hB), xb_F2 hB, zrs, zar (xb_a1 hB), zidx_n (by omega) (by decide), (hT0.1 x (by omega)).1, if_pos (by rw [hx3.2]), zob (xb_o hB), Ben_lean_e h.1 hT.1 hx, zci, bBen_letGo_22, q1]
    have hx4 := ((q2.2.1.1.1.2.2.1.2 x).mp (by rw [q6]; simp)).2
    have hC := q2.1.2.2.2.1
    have hnv := (q2.2.1.1.2.2 x hx4).1
    have h8 := hV.2.1
    obtain ⟨J2, p1, p2, p3, p4, p5⟩ := Ben_gone (ρ := ρ) (d := e' + 1) (c := c) (L := L) q2 hx hx4 q7 q3 (by
      rw [q6] at q8
      simp at q8
      omega)
    rw [bBen_letGo_26, if_pos (show nI 12 ≤ nI 12 from nI_le (Nat.le_refl _) (by decide)), zob (xb_o hB), xb_F3 hB, zrs, zar (xb_a2 hB), zidx_n (by omega) (by decide), (q2.1.2.2.2.2.1 x (by omega)).2 hx4, zob (xb_o hB), q2.1.2.2.1, zrs, zob (xp_o hC.1), xp_F12 hC.1, zrs, zar (xp_a10 hC.1), zidx_n (by omega) (by decide), (hC.2.2.2.2.2 _ hnv).1, zob (xb_o hB), p1]
    exact ⟨J2, rfl, p2, p3, q4.tr p4, p5.trans q5⟩
/-- the call that begins it -/
theorem Ben_letGo_e (h : CI P b p T R I) {x : Nat} {g : List Nat} (hx : x < P.1.1) (h3 : T.1.1.1.1 x = 3) (hG : RowIs I (b + 16) g) (hl : g.length + T.1.2.2.1.length ≤ 12) : ∃ J, EV ρ (d + 17) 173 0 [.ref b, .int (nI x), .int (nI 0), zU, zU] [] (mk c R I L) = some ([], mk c R J L) ∧ CI P b p (tLet P 13 (T, g) x).1 R J ∧ RowIs J (b + 16) (tLet P 13 (T, g) x).2 ∧ FZ [5, 12, 13] b I J ∧ J b 18 = I b 18 := by
  obtain ⟨A, B, e⟩ := List.append_of_mem ((h.2.1.1.1.2.2.1.2 x).mpr ⟨hx, h3⟩)
  have hb := bnd_12 h.1.2.1 h.2.1.1.1
  rw [e] at hb
  simp at hb
  exact Ben_letGo_l (ρ := ρ) (c := c) (L := L) 13 (d + 13) 0 (T, g) I x A B (by omega) (by omega) h e (by omega) hG hl
end CLET
