-- THE COMPONENT'S BENCH: height, hold
section CHOLD
variable {ρ : Nat × (Nat → Int32)} {d : Nat} {c : Nat × Nat} {R : Nat → Nat → Option Nat} {I J : Nat → Nat → Int32} {L : Nat → Nat → Int64} {P : PT} {b p : Nat} {T : TT}
theorem bt_hg (hV : PV P) {x o : Nat} (hx : x < P.1.1) : bt (T.2.1.1.1 x ||| pbit (P.2.1 x)) o = hg P T o x := by
  rw [b_or]
  unfold hg
  cases e : P.2.1 x with
  | none =>
    rw [show bt (pbit none) o = bt (nI 0) o from rfl, show bt (nI 0) o = false from b_0 o]
    simp
  | some k =>
    have := hV.2.2.2.1 x hx k e
    have := hV.1
    rw [show bt (pbit (some k)) o = bt (nI 1 <<< (nI k &&& 31)) o from rfl, b_bit (by omega), Bool.or_comm]
    have e2 : decide (some k = some o) = decide (o = k) := by
      by_cases e3 : o = k
      · simp [e3]
      · simp [e3]; omega
    rw [e2]
theorem Mat_max_e {a k : Nat} (ha : a < 2 ^ 30) (hk : k < 2 ^ 30) : EV ρ (d + 1) 232 0 [.int (nI a), .int (nI k)] [] (mk c R I L) = some ([.int (nI (max a k))], mk c R I L) := by
  rw [bMat_max_0]
  by_cases e : a < k
  · rw [if_pos (nI_lt e (by omega)), Nat.max_eq_right (by omega)]
  · rw [if_neg (i1_ge ha (by omega)), Nat.max_eq_left (by omega)]
theorem Ben_heightOf_e (h : CX P b p T R I) {x : Nat} (hx : x < P.1.1) {f : Nat → Nat} (hf : ∀ o, f o ≤ 13) (hh : ∀ o, o < P.1.1 → hg P T o x = true → I (b + 5) o = nI (f o)) : EV ρ (d + 2) 167 0 [.ref b, .int (nI x), zU, zU, zU] [] (mk c R I L) = some ([.int (nI ((List.range P.1.1).foldl (fun m o => if hg P T o x then max m (f o + 1) else m) 0))], mk c R I L) := by
  obtain ⟨hb, hV, hR, hC, hT⟩ := h
  have h12 := hV.1
  have hp := hC.1
  have loop : ∀ (j k m : Nat), k + j = P.1.1 → m ≤ 14 → EV ρ (d + 2) 167 22 [.ref b, zU, .int (T.2.1.1.1 x ||| pbit (P.2.1 x)), .int (nI m), .int (nI k)] [] (mk c R I L) = some ([.int (nI (((List.range P.1.1).drop k).foldl (fun m o => if hg P T o x then max m (f o + 1) else m) m))], mk c R I L) := by
    intro j
    induction j with
    | zero =>
      intro k m hk hm
      rw [rg_nil (by omega), bBen_heightOf_22, zob (xb_o hb), hR, zrs, zob (xp_o hp), hC.2.1, if_pos (nI_le (by omega) (by omega))]
      rfl
    | succ j ih =>
      intro k m hk hm
      rw [rg_cons (by omega), List.foldl_cons, bBen_heightOf_22, zob (xb_o hb), hR, zrs, zob (xp_o hp), hC.2.1, if_neg (nI_ge (by omega) (by omega))]
      cases e : hg P T k x with
      | true =>
        have := hf k
        rw [if_pos ((hs_b (by omega) _).mpr ((bt_hg hV hx).trans e)), zob (xb_o hb), xb_F6 hb, zrs, zar (xb_a5 hb), zidx_n (by omega) (by decide), hh k (by omega) e, nI_add, Mat_max_e (by omega) (by omega), zci, bBen_heightOf_57, nI_add, if_pos rfl]
        exact ih (k + 1) _ (by omega) (by omega)
      | false =>
        rw [if_neg (fun z => by rw [(bt_hg hV hx).symm.trans ((hs_b (by omega) _).mp z)] at e; cases e), nI_add, if_neg (by decide)]
        exact ih (k + 1) m (by omega) hm
  rw [bBen_heightOf_0, zob (xb_o hb), xb_F7 hb, zrs, zar (xb_a6 hb), zidx_n (by omega) (by decide), (hT.2.1 x (by omega)).2.2.2, zob (xb_o hb), hR, zrs, zob (xp_o hp), xp_F7 hp, zrs, zar (xp_a5 hp), zidx_n (by omega) (by decide), (hC.2.2.2.2.1 x hx).2.1]
  exact loop P.1.1 0 0 (by omega) (by omega)
theorem Ben_hold_e (h : CX P b p T R I) (hv : TV P T) {x v : Nat} (hx : x < P.1.1) (h3 : T.1.1.1.1 x ≠ 3) {f : Nat → Nat} (hf : ∀ o, f o ≤ 13) (hh : ∀ o, o < P.1.1 → hg P T o x = true → I (b + 5) o = nI (f o)) : ∃ J, EV ρ (d + 3) 166 0 [.ref b, .int (nI x), .int (nI v)] [] (mk c R I L) = some ([], mk c R J L) ∧ CX P b p (tHold T x v) R J ∧ FZ [12, 13, 16, 17] b I J ∧ J (b + 5) = va_up (I (b + 5)) x (nI ((List.range P.1.1).foldl (fun m o => if hg P T o x then max m (f o + 1) else m) 0)) ∧ J b 17 = I b 17 ∧ J b 18 = I b 18 + nI 1 := by
  have h' := h
  obtain ⟨hb, hV, hR, hC, hT⟩ := h
  have h12 := hV.1
  have hge := xb_ge hb
  have hr := hv.row hV
  have hxb : x ∉ T.1.2.2.1 := fun z => h3 ((hv.2.2.1.2 x).mp z).2
  have hbl : T.1.2.2.1.length < 12 := rw_len ⟨hv.2.2.1.1, hv.bnd hV⟩ (by omega) hxb
  have h1 := CR_bind (show x < 12 by omega) v hb hT
  have hZ1 : FZ [5, 12, 13, 16, 17] b I (z2 (z2 I (b + 1) x (nI 3)) (b + 2) x (nI v)) := (FZ.rf.zk (by decide) (by decide)).zk (by decide) (by decide)
  have hI1 : z2 (z2 I (b + 1) x (nI 3)) (b + 2) x (nI v) b = I b := by rw [z2_ne (by omega), z2_ne (by omega)]
  obtain ⟨K, g1, g2, g3⟩ := Row_drop_e (ρ := ρ) (d := d + 1) (c := c) (R := R) (L := L) (xb_r10 hb) h1.2.2.2.1 (fun y hy => by have := hr.2 y hy; omega) (v := x) (by omega)
  have h2 := CR_row hb h1 g3 g2
  have hZ2 := hZ1.eo (m := 10) (by decide) (by decide) g3
  have hI2 : K b = I b := by rw [g3 b (by simp only [List.mem_cons, List.not_mem_nil, or_false]; omega), hI1]
  have hE : Eo [b + 14, b + 14 + 1] K (z2 (z2 K (b + 14 + 1) T.1.2.2.1.length (nI x)) (b + 14) 1 (nI (T.1.2.2.1.length + 1))) := (Eo.rf.z2 (by simp)).z2 (by simp)
  have hA := RowIs_app h2.2.2.2.2.1 hbl x
  have hB := CR_bnd (n := T.2.2.2.2 + 1) hb h2 hE hA
  have hZ3 := hZ2.eo (m := 14) (by decide) (by decide) hE
  have hI3 : z2 (z2 K (b + 14 + 1) T.1.2.2.1.length (nI x)) (b + 14) 1 (nI (T.1.2.2.1.length + 1)) b = I b := by rw [z2_ne (by omega), z2_ne (by omega), hI2]
  rw [bBen_hold_0, zob (xb_o hb), xb_F2 hb, zrs, zar (xb_a1 hb), zidx_n (by omega) (by decide), bBen_hold_7, zob (xb_o hb), xb_F3 hb, zrs, zar (xb_a2 hb), zidx_n (by omega) (by decide), bBen_hold_14, zob (xb_o hb), xb_F11 hb, zrs, zob (xb_r10 hb).1, g1, zcv, bBen_hold_22, zob (xb_o hb), xb_F13 hb, zrs, zob (xb_r14 hb).1, Row_append_e (xb_r14 hb) h2.2.2.2.2.1 hbl, zcv]
  show ∃ J, EV ρ (d + 3) 166 30 [.ref b, .int (nI x), .int (nI v)] [] (mk c R (z2 (z2 K (b + 14 + 1) T.1.2.2.1.length (nI x)) (b + 14) 1 (nI (T.1.2.2.1.length + 1))) L) = _ ∧ _
  generalize z2 (z2 K (b + 14 + 1) T.1.2.2.1.length (nI x)) (b + 14) 1 (nI (T.1.2.2.1.length + 1)) = K3 at hB hZ3 hI3 ⊢
  rw [bBen_hold_30, zob (xb_o hb), xb_F8 hb, zrs, zar (xb_a7 hb), zidx_n (by omega) (by decide), zob (xb_o hb), xb_F7 hb, zrs, zar (xb_a6 hb), zidx_n (by omega) (by decide), zar (xb_a7 hb), zidx_n (by omega) (by decide), (hB.2.1 x (by omega)).2.2.1, (hB.2.1 x (by omega)).2.2.2]
  have hD := CR_lk (show x < 12 by omega) (T.1.2.2.2 x ||| T.2.1.1.1 x) hb hB
  have hZ4 : FZ [5, 12, 13, 16, 17] b I (z2 K3 (b + 7) x (T.1.2.2.2 x ||| T.2.1.1.1 x)) := hZ3.zk (by decide) (by decide)
  have hI4 : z2 K3 (b + 7) x (T.1.2.2.2 x ||| T.2.1.1.1 x) b = I b := by rw [z2_ne (by omega), hI3]
  show ∃ J, EV ρ (d + 3) 166 45 [.ref b, .int (nI x), .int (nI v)] [] (mk c R (z2 K3 (b + 7) x (T.1.2.2.2 x ||| T.2.1.1.1 x)) L) = _ ∧ _
  generalize z2 K3 (b + 7) x (T.1.2.2.2 x ||| T.2.1.1.1 x) = K4 at hD hZ4 hI4 ⊢
  have hX := CX_to h' hD hZ4.1
  have h5 : K4 (b + 5) = I (b + 5) := hZ4.2 5 (by decide)
  have hH := Ben_heightOf_e (ρ := ρ) (d := d) (c := c) (L := L) hX hx hf (fun o ho hg => by rw [h5]; exact hh o ho hg)
  rw [bBen_hold_45, zob (xb_o hb), zob (xb_o hb), hH, zci, bBen_hold_55, xb_F6 hb, zrs, zar (xb_a5 hb), zidx_n (by omega) (by decide), bBen_hold_56, zob (xb_o hb), zob (xb_o hb), bBen_hold_66, zob (xb_o hb), xb_F1 hb, zrs, zob (xb_oj hb)]
  generalize eh : nI ((List.range P.1.1).foldl (fun m o => if hg P T o x then max m (f o + 1) else m) 0) = hv2
  have eh2 : nI ((List.range P.1.1).foldl (fun m o => if hg P (u_lk (u_cn (u_bnd (u_row (u_by (u_st T (va_up T.1.1.1.1 x 3)) (va_up T.1.1.1.2 x v)) (T.1.2.1.2.filter (· ≠ x))) (T.1.2.2.1 ++ [x])) (T.2.2.2.2 + 1)) (va_up T.1.2.2.2 x (T.1.2.2.2 x ||| T.2.1.1.1 x))) o x then max m (f o + 1) else m) 0) = hv2 := eh
  have hM : CR b (u_lk (u_cn (u_bnd (u_row (u_by (u_st T (va_up T.1.1.1.1 x 3)) (va_up T.1.1.1.2 x v)) (T.1.2.1.2.filter (· ≠ x))) (T.1.2.2.1 ++ [x])) (T.2.2.2.2 + 1)) (va_up T.1.2.2.2 x (T.1.2.2.2 x ||| T.2.1.1.1 x))) (z2 (z2 K4 (b + 5) x hv2) b 18 (K4 b 18 + nI 1)) := by
    refine CR_to hD (fun k hk => ?_) ?_ ?_ ?_ (fun e => ?_) ?_
    · rw [z2_ne (by rintro e; simp only [List.mem_cons, List.not_mem_nil, or_false] at hk; omega), z2_ne (by rintro e; simp only [List.mem_cons, List.not_mem_nil, or_false] at hk; omega)]
    · rw [z2a, if_neg (by omega), z2_ne (by omega)]
    · rw [z2a, if_neg (by omega), z2_ne (by omega)]
    · rw [z2a, if_neg (by omega), z2_ne (by omega)]
    · exact ⟨by rw [z2_ne (by omega), z2_ne (by omega)], by rw [z2_ne (by omega), z2_ne (by omega)]⟩
    · have := xb_104 hb 0 (by omega)
      have := xb_104 hb 5 (by omega)
      rw [z2_ne (by omega), z2_ne (by omega)]
  have hZ5 : FZ [12, 13, 16, 17] b I (z2 (z2 K4 (b + 5) x hv2) b 18 (K4 b 18 + nI 1)) := ((hZ4.mo (by decide)).zk (by decide) (by decide)).z0 (by decide)
  obtain ⟨J, j1, j2, j3, j4⟩ := Ben_logZ (ρ := ρ) (d := d) (c := c) (L := L) (CX_to h' hM hZ5.1) (nI 1) (nI x) (nI v)
  have e18 : z2 K4 (b + 5) x hv2 b 18 = K4 b 18 := by rw [z2_ne (by omega)]
  show ∃ J, zcV (EV ρ (d + 2) 117 0 [.ref (jo b), .int (nI 1), .int (nI x), .int (nI v), zU] [] (mk c R (z2 (z2 K4 (b + 5) x (nI ((List.range P.1.1).foldl (fun m o => if hg P T o x then max m (f o + 1) else m) 0))) b 18 (z2 K4 (b + 5) x (nI ((List.range P.1.1).foldl (fun m o => if hg P T o x then max m (f o + 1) else m) 0)) b 18 + nI 1)) L)) _ = _ ∧ _
  rw [eh, e18, j1, zcv, bBen_hold_76]
  refine ⟨J, rfl, j2, hZ5.tr (j3.mo (by decide)), ?_, ?_, ?_⟩
  · rw [j3.2 5 (by decide), z2_ne (by omega)]
    funext y
    rw [z2a]
    unfold va_up
    by_cases ey : y = x
    · rw [if_pos ⟨rfl, ey⟩, if_pos ey]
    · rw [if_neg (fun z => ey z.2), if_neg ey, h5]
  · rw [j4, z2a, if_neg (by omega), z2_ne (by omega), hI4]
  · rw [j4, z2a, if_pos ⟨rfl, rfl⟩, hI4]
end CHOLD
