-- THE COMPONENT'S BENCH: release, height, hold
section CREL
variable {ρ : Nat × (Nat → Int32)} {d : Nat} {c : Nat × Nat} {R : Nat → Nat → Option Nat} {I J : Nat → Nat → Int32} {L : Nat → Nat → Int64} {P : PT} {b p : Nat} {T : TT}
theorem i1_lt {k : Nat} (h : k < 2 ^ 30) : nI k - nI 1 < nI k := by
  rw [Int32.lt_iff_toInt_lt, pk_sub_toInt (by omega) (by omega), nI_toInt (by omega)]
  omega
theorem i1_ge {a k : Nat} (h : a < 2 ^ 30) (hk : k ≤ a) : ¬ nI a < nI k := by
  rw [Int32.lt_iff_toInt_lt, nI_toInt (by omega), nI_toInt (by omega)]
  omega
theorem i1_m (k : Nat) : nI k + -1 = nI k - nI 1 := by rw [Int32.sub_eq_add_neg]; rfl
theorem sp_oks' (hV : PV P) {v : Nat} (hv : v < P.1.2.1) {z : Nat × Nat} (hz : z ∈ P.2.2.2.1 v) : oks z := by
  obtain ⟨h1, h2, h3, h4, h5⟩ := (hV.2.2.2.2.2.1 v hv).2 z hz
  have := hV.2.2.1
  exact ⟨h1, h2, fun e => by have := h3 e; omega, fun e => by have := h4 e; omega, h5⟩
theorem Ben_release_l {x v : Nat} (hx : x < 12) (hv : v < P.1.2.1) : ∀ (m : Nat) (T : TT) (I : Nat → Nat → Int32), m ≤ (P.2.2.2.1 v).length → CX P b p T R I → ∃ J, EV ρ (d + 3) 175 10 [.ref b, .int (nI x), .int (nI v), zU, .int (nI (6 * v + m) - nI 1), zU] [] (mk c R I L) = some ([], mk c R J L) ∧ CX P b p (u_co (tRels x (((P.2.2.2.1 v).take m).filter isT).reverse T) (va_up (tRels x (((P.2.2.2.1 v).take m).filter isT).reverse T).2.1.1.1 x (nI 0))) R J ∧ FZ [5, 12, 13, 16, 17] b I J ∧ J b 17 = I b 17 ∧ J b 18 = I b 18 := by
  intro m
  induction m with
  | zero =>
    intro T I hm h
    have h' := h
    obtain ⟨hb, hV, hR, hC, hT⟩ := h
    have h8 := hV.2.1
    rw [bBen_release_10, pk_mul, show v * 6 = 6 * v from Nat.mul_comm _ _, Nat.add_zero, if_pos (i1_lt (by omega)), zob (xb_o hb), xb_F7 hb, zrs, zar (xb_a6 hb), zidx_n (by omega) (by decide), bBen_release_161]
    have hZ : FZ [5, 12, 13, 16, 17] b I (z2 I (b + 6) x (nI 0)) := FZ.rf.zk (by decide) (by decide)
    exact ⟨_, rfl, CX_to h' (CR_co hx _ hb hT) hZ.1, hZ, by rw [z2_ne (by omega)], by rw [z2_ne (by omega)]⟩
  | succ m ih =>
    intro T I hm h
    have h' := h
    obtain ⟨hb, hV, hR, hC, hT⟩ := h
    have h8 := hV.2.1
    have hp := hC.1
    have h6 := (hV.2.2.2.2.2.1 v hv).1
    have hml : m < (P.2.2.2.1 v).length := by omega
    generalize ez : (P.2.2.2.1 v)[m] = z
    have hzm : z ∈ P.2.2.2.1 v := by rw [← ez]; exact List.getElem_mem hml
    have hgz : (P.2.2.2.1 v)[m]? = some z := by rw [List.getElem?_eq_getElem hml, ez]
    obtain ⟨q1, q2⟩ := (hC.2.2.2.2.2 v hv).2.1 m z hgz
    obtain ⟨z1, zl, zg, zv, z5⟩ := sp_oks' hV hv hzm
    have etk : (P.2.2.2.1 v).take (m + 1) = (P.2.2.2.1 v).take m ++ [z] := by rw [List.take_succ, hgz]; rfl
    have hb17 := xb_ge hb
    have key : ∃ K, EV ρ (d + 3) 175 10 [.ref b, .int (nI x), .int (nI v), zU, .int (nI (6 * v + (m + 1)) - nI 1), zU] [] (mk c R I L) = EV ρ (d + 3) 175 10 [.ref b, .int (nI x), .int (nI v), zU, .int (nI (6 * v + m) - nI 1), zU] [] (mk c R K L) ∧ CX P b p (if isT z then tRel1 x T z else T) R K ∧ FZ [5, 12, 13, 16, 17] b I K ∧ K b 17 = I b 17 ∧ K b 18 = I b 18 := by
      rw [bBen_release_10, pk_mul, show v * 6 = 6 * v from Nat.mul_comm _ _, pk_sub (by omega), show 6 * v + (m + 1) - 1 = 6 * v + m from rfl, if_neg (i1_ge (by omega) (by omega)), zob (xb_o hb), hR, zrs, zob (xp_o hp), xp_F14 hp, zrs, zar (xp_a12 hp), zidx_n (by omega) (by decide), zob (xb_o hb), zrs, zob (xp_o hp), xp_F13 hp, zrs, zar (xp_a11 hp), zidx_n (by omega) (by decide), q1, q2, zrk (by omega) (by omega)]
      have ek : ∀ k, (some (1005 + z.1) = some (1005 + k)) ↔ (z.1 = k) := fun k => by simp
      by_cases e1 : z.1 = 1
      · have hz2 := zl e1
        rw [if_pos ((ek 1).mpr e1), zob (xb_o hb), xb_F9 hb, zrs, zar (xb_a8 hb), zidx_n (by omega) (by decide), bBen_release_55, zob (xb_o hb), xb_F1 hb, zrs, zob (xb_oj hb)]
        have hZ : FZ [5, 12, 13, 16, 17] b I (z2 I (b + 8) z.2 (-1)) := FZ.rf.zk (by decide) (by decide)
        obtain ⟨K, g1, g2, g3, g4⟩ := Ben_logZ (ρ := ρ) (d := d) (c := c) (L := L) (CX_to h' (show CR b (u_ln T (va_up T.2.1.1.2 z.2 none)) (z2 I (b + 8) z.2 (-1)) from CR_ln hz2 none hb hT) hZ.1) (nI 6) (nI x) (nI z.2)
        rw [g1, zcv, bBen_release_67, bBen_release_148, i1_m]
        refine ⟨K, rfl, ?_, hZ.tr g3, by rw [g4, z2_ne (by omega)], by rw [g4, z2_ne (by omega)]⟩
        rw [if_pos (by simp [isT, e1])]
        unfold tRel1
        rw [if_pos e1, if_pos e1]
        exact g2
      · rw [if_neg (fun w => e1 ((ek 1).mp w)), zob (xb_o hb), zrs, zob (xp_o hp), xp_F13 hp, zrs, zar (xp_a11 hp), zidx_n (by omega) (by decide), q1, zrk (by omega) (by omega)]
        by_cases e0 : z.1 = 0
        · rw [if_pos ((ek 0).mpr e0), zob (xb_o hb), zob (xb_o hb), bBen_release_97, zob (xb_o hb), xb_F1 hb, zrs, zob (xb_oj hb), hT.2.2.1.2.2.1]
          have hZ : FZ [5, 12, 13, 16, 17] b I (z2 I b 15 (T.2.2.1.1 + nI z.2)) := FZ.rf.z0 (by decide)
          obtain ⟨K, g1, g2, g3, g4⟩ := Ben_logZ (ρ := ρ) (d := d) (c := c) (L := L) (CX_to h' (CR_pool _ hb hT) hZ.1) (nI 7) (nI x) (nI z.2)
          rw [g1, zcv, bBen_release_109, bBen_release_148, i1_m]
          refine ⟨K, rfl, ?_, hZ.tr g3, by rw [g4, z2a, if_neg (by omega)], by rw [g4, z2a, if_neg (by omega)]⟩
          rw [if_pos (by simp [isT, e0])]
          unfold tRel1
          rw [if_neg e1, if_pos e0, if_neg e1, if_pos e0]
          exact g2
        · rw [if_neg (fun w => e0 ((ek 0).mp w)), zob (xb_o hb), zrs, zob (xp_o hp), xp_F13 hp, zrs, zar (xp_a11 hp), zidx_n (by omega) (by decide), q1, zrk (by omega) (by omega)]
          by_cases e3 : z.1 = 3
          · have hz2 := zv e3
            rw [if_pos ((ek 3).mpr e3), zob (xb_o hb), xb_F10 hb, zrs, zar (xb_a9 hb), zidx_n (by omega) (by decide), bBen_release_136, zob (xb_o hb), xb_F1 hb, zrs, zob (xb_oj hb)]
            have hZ : FZ [5, 12, 13, 16, 17] b I (z2 I (b + 9) z.2 (-1)) := FZ.rf.zk (by decide) (by decide)
            obtain ⟨K, g1, g2, g3, g4⟩ := Ben_logZ (ρ := ρ) (d := d) (c := c) (L := L) (CX_to h' (show CR b (u_gv T (va_up T.2.1.2.1 z.2 none)) (z2 I (b + 9) z.2 (-1)) from CR_gv hz2 none hb hT) hZ.1) (nI 8) (nI x) (nI z.2)
            rw [g1, zcv, bBen_release_148, i1_m]
            refine ⟨K, rfl, ?_, hZ.tr g3, by rw [g4, z2_ne (by omega)], by rw [g4, z2_ne (by omega)]⟩
            rw [if_pos (by simp [isT, e3])]
            unfold tRel1
            rw [if_neg e1, if_neg e0, if_neg e1, if_neg e0]
            exact g2
          · rw [if_neg (fun w => e3 ((ek 3).mp w)), bBen_release_148, i1_m]
            refine ⟨I, rfl, ?_, FZ.rf, rfl, rfl⟩
            rw [if_neg (by simp [isT, e0, e1, e3])]
            exact h'
    obtain ⟨K, k1, k2, k3, k4, k5⟩ := key
    obtain ⟨J, j1, j2, j3, j4, j5⟩ := ih _ K (by omega) k2
    rw [k1, j1]
    refine ⟨J, rfl, ?_, k3.tr j3, j4.trans k4, j5.trans k5⟩
    have er : (((P.2.2.2.1 v).take (m + 1)).filter isT).reverse = if isT z then z :: (((P.2.2.2.1 v).take m).filter isT).reverse else (((P.2.2.2.1 v).take m).filter isT).reverse := by
      rw [etk, List.filter_append, List.reverse_append, List.filter_cons]
      cases isT z <;> rfl
    rw [er]
    cases e : isT z
    · rw [e] at j2; exact j2
    · rw [e] at j2; exact j2
/-- what was taken by the first n steps is given back -/
theorem Ben_release_e (h : CX P b p T R I) {x v n : Nat} (hx : x < 12) (hv : v < P.1.2.1) (hn : n ≤ (P.2.2.2.1 v).length) (ht : T.2.2.2.1 x = ((P.2.2.2.1 v).take n).filter isT) : ∃ J, EV ρ (d + 3) 175 0 [.ref b, .int (nI x), .int (nI v), .int (nI n), zU, zU] [] (mk c R I L) = some ([], mk c R J L) ∧ CX P b p (tRelease T x) R J ∧ FZ [5, 12, 13, 16, 17] b I J ∧ J b 17 = I b 17 ∧ J b 18 = I b 18 := by
  obtain ⟨J, j1, j2, j3, j4⟩ := Ben_release_l (ρ := ρ) (d := d) (c := c) (L := L) hx hv n T I hn h
  rw [bBen_release_0, pk_mul, nI_add, show v * 6 = 6 * v from Nat.mul_comm _ _, j1]
  refine ⟨J, rfl, ?_, j3, j4⟩
  unfold tRelease
  rw [ht]
  exact j2
end CREL
