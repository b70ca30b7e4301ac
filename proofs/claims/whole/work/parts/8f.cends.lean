-- THE COMPONENT'S BENCH: a probe
theorem tGets_ca (P : PT) (T : TT) (f : Nat → Int32) (x z : Nat) : tGets P (u_ca T f) x z = ((tGets P T x z).1, u_ca (tGets P T x z).2 f) := by
  have ea : ∀ g, abv P (u_ca T f) g = abv P T g := fun g => rfl
  unfold tGets
  show (match T.2.1.2.1 z with
    | none => ((2, nI z), u_ca T f)
    | some g => if g = x then ((0, -1), u_ca T f) else if bt (abv P (u_ca T f) g) x then ((3, nI g), u_ca T f) else ((0, -1), u_co (u_ca T f) (va_up T.2.1.1.1 x (T.2.1.1.1 x ||| (nI 1 <<< (nI g &&& 31)))))) = _
  cases T.2.1.2.1 z with
  | none => rfl
  | some g =>
    dsimp only
    rw [ea g]
    by_cases e1 : g = x
    · rw [if_pos e1, if_pos e1]
    · rw [if_neg e1, if_neg e1]
      by_cases e2 : bt (abv P T g) x = true
      · rw [if_pos e2, if_pos e2]
      · rw [if_neg e2, if_neg e2]
theorem tDo_ca (P : PT) (T : TT) (f : Nat → Int32) (x : Nat) (z : Nat × Nat) : tDo P (u_ca T f) x z = ((tDo P T x z).1, u_ca (tDo P T x z).2 f) := by
  unfold tDo
  by_cases e0 : z.1 = 0
  · rw [if_pos e0, if_pos e0]
    show (if nI z.2 ≤ T.2.2.1.1 then _ else _) = _
    by_cases e : nI z.2 ≤ T.2.2.1.1
    · rw [if_pos e, if_pos e]; rfl
    · rw [if_neg e, if_neg e]
  · rw [if_neg e0, if_neg e0]
    by_cases e1 : z.1 = 1
    · rw [if_pos e1, if_pos e1]
      show (match T.2.1.1.2 z.2 with
        | none => _
        | some y => _) = _
      cases T.2.1.1.2 z.2 <;> rfl
    · rw [if_neg e1, if_neg e1]
      by_cases e2 : z.1 = 2
      · rw [if_pos e2, if_pos e2, tGets_ca]
      · rw [if_neg e2, if_neg e2]
        by_cases e3 : z.1 = 3
        · rw [if_pos e3, if_pos e3]
          show (match T.2.1.2.1 z.2 with
            | none => _
            | some y => _) = _
          cases T.2.1.2.1 z.2 <;> rfl
        · rw [if_neg e3, if_neg e3]
theorem tNeeds_ca (P : PT) (f : Nat → Int32) (x : Nat) : ∀ (l : List Nat) (T : TT), tNeeds P x l (u_ca T f) = ((tNeeds P x l T).1, u_ca (tNeeds P x l T).2 f)
  | [], _ => rfl
  | z :: l, T => by
    unfold tNeeds
    rw [tGets_ca]
    dsimp only
    by_cases e : (tGets P T x z).1.1 = 0
    · rw [if_pos e, if_pos e, tNeeds_ca P f x l]
    · rw [if_neg e, if_neg e]
theorem tSteps_ca (P : PT) (f : Nat → Int32) (x : Nat) : ∀ (l : List (Nat × Nat)) (T : TT), tSteps P x l (u_ca T f) = ((tSteps P x l T).1, u_ca (tSteps P x l T).2 f)
  | [], _ => rfl
  | z :: l, T => by
    unfold tSteps
    rw [tDo_ca]
    dsimp only
    by_cases e : (tDo P T x z).1.1 = 0
    · rw [if_pos e, if_pos e, tSteps_ca P f x l]
    · rw [if_neg e, if_neg e]
theorem tWrong_ca (P : PT) (T : TT) (f : Nat → Int32) (x v : Nat) : tWrong P (u_ca T f) x v = ((tWrong P T x v).1, u_ca (tWrong P T x v).2 f) := by
  unfold tWrong
  have e1 : pNo P (u_ca T f) x = pNo P T x := rfl
  rw [e1, tNeeds_ca]
  cases pNo P T x with
  | some y => rfl
  | none =>
    dsimp only
    by_cases e : (tNeeds P x (P.2.2.1 x) T).1.1 = 0
    · rw [if_pos e, if_pos e, tSteps_ca]
    · rw [if_neg e, if_neg e]
section CENDS
variable {ρ : Nat × (Nat → Int32)} {d : Nat} {c : Nat × Nat} {R : Nat → Nat → Option Nat} {I J : Nat → Nat → Int32} {L : Nat → Nat → Int64} {P : PT} {b p : Nat} {T : TT}
theorem Ben_needs_x (h : CX P b p T R I) {x v w : Nat} {k : Int32} (hx : x < P.1.1) (hw : w ≠ 0) (hw7 : w ≤ 7) : EV ρ (d + 4) 163 48 [.ref b, .int (nI x), .int (nI v), zU, .int (nI w), .int k, zU, zU] [] (mk c R I L) = EV ρ (d + 4) 163 103 [.ref b, .int (nI x), .int (nI v), zU, .int (nI w), .int (nI 0), .int (nI v * nI 6), zU] [] (mk c R I L) := by
  obtain ⟨hb, hV, hR, hC, hT⟩ := h
  have h12 := hV.1
  have hp := hC.1
  rw [bBen_endsWith_48, zob (xb_o hb), hR, zrs, zob (xp_o hp), xp_F8 hp, zrs, zar (xp_a6 hp), zidx_n (by omega) (by decide)]
  by_cases e : I (p + 6) x ≤ k
  · rw [if_pos e]
  · rw [if_neg e, if_neg (by rw [nn1 (by omega)]; exact hw)]
theorem Ben_needs_l {x v : Nat} (hx : x < P.1.1) : ∀ (n k : Nat) (T : TT) (I : Nat → Nat → Int32), k + n = (P.2.2.1 x).length → CX P b p T R I → TV P T → T.1.1.2.2 x = -1 → ∃ J, EV ρ (d + 4) 163 48 [.ref b, .int (nI x), .int (nI v), zU, .int (nI 0), .int (nI k), zU, zU] [] (mk c R I L) = EV ρ (d + 4) 163 103 [.ref b, .int (nI x), .int (nI v), zU, .int (nI (tNeeds P x ((P.2.2.1 x).drop k) T).1.1), .int (nI 0), .int (nI v * nI 6), zU] [] (mk c R J L) ∧ CX P b p (tcu (tNeeds P x ((P.2.2.1 x).drop k) T) x) R J ∧ FZ [5, 12, 13, 14, 15, 16, 17] b I J ∧ J b = I b := by
  intro n
  induction n with
  | zero =>
    intro k T I hk h hv hca
    have h' := h
    obtain ⟨hb, hV, hR, hC, hT⟩ := h
    have h12 := hV.1
    have hp := hC.1
    have h3 := (hV.2.2.2.2.1 x hx).1
    rw [bBen_endsWith_48, zob (xb_o hb), hR, zrs, zob (xp_o hp), xp_F8 hp, zrs, zar (xp_a6 hp), zidx_n (by omega) (by decide), (hC.2.2.2.2.1 x hx).2.2.1, if_pos (nI_le (by omega) (by omega)), List.drop_of_length_le (by omega)]
    refine ⟨I, rfl, ?_, FZ.rf, rfl⟩
    rw [tcu_id (by exact hca)]
    exact h'
  | succ n ih =>
    intro k T I hk h hv hca
    have h' := h
    obtain ⟨hb, hV, hR, hC, hT⟩ := h
    have h12 := hV.1
    have hp := hC.1
    have h3 := (hV.2.2.2.2.1 x hx).1
    have hkl : k < (P.2.2.1 x).length := by omega
    have hz8 := ne_lt hV hx _ (List.getElem_mem hkl)
    have hg := (hC.2.2.2.2.1 x hx).2.2.2.1 k _ (List.getElem?_eq_getElem hkl)
    rw [List.drop_eq_getElem_cons hkl]
    generalize (P.2.2.1 x)[k] = z at hz8 hg
    obtain ⟨K, g1, g2, g3, g4⟩ := Ben_consume_e (ρ := ρ) (d := d + 1) (c := c) (L := L) h' hv hx hz8 hca
    obtain ⟨f1, f2, f3, f4⟩ := tGets_f (x := x) hV hv hz8
    have e86 : EV ρ (d + 4) 163 48 [.ref b, .int (nI x), .int (nI v), zU, .int (nI 0), .int (nI k), zU, zU] [] (mk c R I L) = EV ρ (d + 4) 163 48 [.ref b, .int (nI x), .int (nI v), zU, .int (nI (tGets P T x z).1.1), .int (nI (k + 1)), zU, zU] [] (mk c R K L) := by
      rw [bBen_endsWith_48, zob (xb_o hb), hR, zrs, zob (xp_o hp), xp_F8 hp, zrs, zar (xp_a6 hp), zidx_n (by omega) (by decide), (hC.2.2.2.2.1 x hx).2.2.1, if_neg (nI_ge (by omega) (by omega)), if_pos (show nI 0 = 0 from rfl), zob (xb_o hb), zrs, zob (xp_o hp), xp_F9 hp, zrs, pk_mul, nI_add, zar (xp_a7 hp), zidx_n (by omega) (by decide), Nat.mul_comm x 3, hg, zob (xb_o hb), g1, zci, bBen_endsWith_86, nI_add]
    rw [e86]
    unfold tNeeds
    by_cases e : (tGets P T x z).1.1 = 0
    · rw [if_pos e, e]
      have eid : tcu (tGets P T x z) x = (tGets P T x z).2 := tcu_id (by rw [f1.2.2.2.1, f3.2 (Or.inl e)]; exact hca)
      rw [eid] at g2
      obtain ⟨J, j1, j2, j3, j4⟩ := ih (k + 1) _ K (by omega) g2 f2 (by rw [f1.2.2.2.1]; exact hca)
      exact ⟨J, j1, j2, g3.tr j3, j4.trans g4⟩
    · rw [if_neg e]
      exact ⟨K, Ben_needs_x g2 hx e f3.1, g2, g3, g4⟩
theorem Ben_steps_x (h : CX P b p T R I) {x v w m : Nat} {k : Int32} (hx : x < P.1.1) (hv : v < P.1.2.1) (hm : m ≤ 6) (hw : w ≠ 0 ∨ (P.2.2.2.1 v).length ≤ m) (hw7 : w ≤ 7) : EV ρ (d + 4) 163 103 [.ref b, .int (nI x), .int (nI v), zU, .int (nI w), .int (nI m), .int k, zU] [] (mk c R I L) = EV ρ (d + 4) 163 208 [.ref b, .int (nI x), .int (nI v), zU, .int (nI w), .int (nI m), zU, zU] [] (mk c R (z2 I (b + 3) x (nI w)) L) := by
  obtain ⟨hb, hV, hR, hC, hT⟩ := h
  have h12 := hV.1
  have h8 := hV.2.1
  have hp := hC.1
  have h6 := (hV.2.2.2.2.2.1 v hv).1
  rw [bBen_endsWith_103, zob (xb_o hb), hR, zrs, zob (xp_o hp), xp_F12 hp, zrs, zar (xp_a10 hp), zidx_n (by omega) (by decide), (hC.2.2.2.2.2 v hv).1]
  by_cases e : (P.2.2.2.1 v).length ≤ m
  · rw [if_pos (nI_le e (by omega)), zob (xb_o hb), xb_F4 hb, zrs, zar (xb_a3 hb), zidx_n (by omega) (by decide)]
  · rw [if_neg (nI_ge (by omega) (by omega)), if_neg (by rw [nn1 (by omega)]; omega), zob (xb_o hb), xb_F4 hb, zrs, zar (xb_a3 hb), zidx_n (by omega) (by decide)]
theorem Ben_steps_l {x v : Nat} (hx : x < P.1.1) (hvn : v < P.1.2.1) : ∀ (n k : Nat) (T : TT) (I : Nat → Nat → Int32), k + n = (P.2.2.2.1 v).length → CX P b p T R I → TV P T → T.1.1.2.2 x = -1 → (T.2.2.2.1 x).length + n ≤ 6 → ∃ J, EV ρ (d + 4) 163 103 [.ref b, .int (nI x), .int (nI v), zU, .int (nI 0), .int (nI k), .int (nI (6 * v + k)), zU] [] (mk c R I L) = EV ρ (d + 4) 163 208 [.ref b, .int (nI x), .int (nI v), zU, .int (nI (tSteps P x ((P.2.2.2.1 v).drop k) T).1.1), .int (nI (k + tDone P x ((P.2.2.2.1 v).drop k) T)), zU, zU] [] (mk c R J L) ∧ CX P b p (u_re (tcu (tSteps P x ((P.2.2.2.1 v).drop k) T) x) (va_up (tcu (tSteps P x ((P.2.2.2.1 v).drop k) T) x).1.1.2.1 x (nI (tSteps P x ((P.2.2.2.1 v).drop k) T).1.1))) R J ∧ FZ [5, 12, 13, 14, 15, 16, 17] b I J ∧ J b 17 = I b 17 ∧ J b 18 = I b 18 := by
  intro n
  induction n with
  | zero =>
    intro k T I hk h hv hca ht
    have h' := h
    obtain ⟨hb, hV, hR, hC, hT⟩ := h
    have h12 := hV.1
    have h6 := (hV.2.2.2.2.2.1 v hvn).1
    have hZ : FZ [5, 12, 13, 14, 15, 16, 17] b I (z2 I (b + 3) x (nI 0)) := FZ.rf.zk (by decide) (by decide)
    rw [List.drop_of_length_le (by omega), Ben_steps_x h' hx hvn (by omega) (Or.inr (by omega)) (by omega)]
    refine ⟨_, rfl, ?_, hZ, by rw [z2_ne (by omega)], by rw [z2_ne (by omega)]⟩
    rw [tcu_id (by exact hca)]
    exact CX_to h' (CR_re (by omega) _ hb hT) hZ.1
  | succ n ih =>
    intro k T I hk h hv hca ht
    have h' := h
    obtain ⟨hb, hV, hR, hC, hT⟩ := h
    have h12 := hV.1
    have h8 := hV.2.1
    have hp := hC.1
    have h6 := (hV.2.2.2.2.2.1 v hvn).1
    have hkl : k < (P.2.2.2.1 v).length := by omega
    have hz := sp_oks hV hvn _ (List.getElem_mem hkl)
    have hg := (hC.2.2.2.2.2 v hvn).2.1 k _ (List.getElem?_eq_getElem hkl)
    rw [List.drop_eq_getElem_cons hkl]
    generalize (P.2.2.2.1 v)[k] = z at hz hg
    obtain ⟨f1, f2, f3, f4⟩ := tDo_f hV hv hx hz (by omega)
    have h5 : z.1 ≤ 4 := hz.1
    have ek : (some (1005 + z.1) = some 1007) ↔ (z.1 = 2) := by simp; omega
    -- one step
    have e1 : ∃ K, EV ρ (d + 4) 163 103 [.ref b, .int (nI x), .int (nI v), zU, .int (nI 0), .int (nI k), .int (nI (6 * v + k)), zU] [] (mk c R I L) = EV ρ (d + 4) 163 177 [.ref b, .int (nI x), .int (nI v), zU, zU, .int (nI k), .int (nI (6 * v + k)), zU] [.int (nI (tDo P T x z).1.1)] (mk c R K L) ∧ CX P b p (tcu (tDo P T x z) x) R K ∧ FZ [5, 12, 13, 14, 15, 16, 17] b I K ∧ K b 17 = I b 17 ∧ K b 18 = I b 18 := by
      rw [bBen_endsWith_103, zob (xb_o hb), hR, zrs, zob (xp_o hp), xp_F12 hp, zrs, zar (xp_a10 hp), zidx_n (by omega) (by decide), (hC.2.2.2.2.2 v hvn).1, if_neg (nI_ge (by omega) (by omega)), if_pos (show nI 0 = 0 from rfl), zob (xb_o hb), zrs, zob (xp_o hp), xp_F14 hp, zrs, zar (xp_a12 hp), zidx_n (by omega) (by decide), zob (xb_o hb), zrs, zob (xp_o hp), xp_F13 hp, zrs, zar (xp_a11 hp), zidx_n (by omega) (by decide), hg.1, hg.2, zrk (by omega) (by omega)]
      by_cases e2 : z.1 = 2
      · obtain ⟨K, g1, g2, g3, g4⟩ := Ben_consume_e (ρ := ρ) (d := d + 1) (c := c) (L := L) h' hv hx (hz.2.2.1 e2) hca
        have ed : tDo P T x z = tGets P T x z.2 := by unfold tDo; rw [if_neg (by omega), if_neg (by omega), if_pos e2]
        rw [if_pos (ek.mpr e2), zob (xb_o hb), g1, zci, bBen_endsWith_157, ed]
        exact ⟨K, rfl, g2, g3, by rw [g4], by rw [g4]⟩
      · obtain ⟨K, g1, g2, g3, g4, g5⟩ := Ben_take_e (ρ := ρ) (d := d + 2) (c := c) (L := L) h' hv hx hz e2 hca
        rw [if_neg (fun w => e2 (ek.mp w)), zob (xb_o hb), zrs, zob (xp_o hp), xp_F13 hp, zrs, zar (xp_a11 hp), zidx_n (by omega) (by decide), hg.1, zrs, zob (xb_o hb), g1, zci]
        exact ⟨K, rfl, g2, g3, g4, g5⟩
    obtain ⟨K, k1, k2, k3, k4, k5⟩ := e1
    rw [k1, bBen_endsWith_177]
    unfold tSteps tDone
    by_cases e : (tDo P T x z).1.1 = 0
    · rw [if_pos e, if_pos ((nn1 (by omega)).mpr e), if_pos e, e, nI_add, nI_add]
      have eid : tcu (tDo P T x z) x = (tDo P T x z).2 := tcu_id (by rw [f1.2.2.2.1, f3.2 (Or.inl e)]; exact hca)
      rw [eid] at k2
      have htl : ((tDo P T x z).2.2.2.2.1 x).length ≤ (T.2.2.2.1 x).length + 1 := by
        rw [f4, va_up_self]
        split
        · simp
        · omega
      obtain ⟨J, j1, j2, j3, j4, j5⟩ := ih (k + 1) _ K (by omega) k2 f2 (by rw [f1.2.2.2.1]; exact hca) (by omega)
      refine ⟨J, ?_, j2, k3.tr j3, j4.trans k4, j5.trans k5⟩
      rw [show k + (tDone P x ((P.2.2.2.1 v).drop (k + 1)) (tDo P T x z).2 + 1) = k + 1 + tDone P x ((P.2.2.2.1 v).drop (k + 1)) (tDo P T x z).2 from by omega]
      exact j1
    · have hw7 := f3.1
      rw [if_neg e, if_neg (by rw [nn1 (by omega)]; exact e), if_neg e, nI_add k 0, Nat.add_zero, Ben_steps_x k2 hx hvn (by omega) (Or.inl e) hw7]
      have hZ : FZ [5, 12, 13, 14, 15, 16, 17] b I (z2 K (b + 3) x (nI (tDo P T x z).1.1)) := k3.zk (by decide) (by decide)
      exact ⟨_, rfl, CX_to h' (CR_re (by omega) _ hb k2.2.2.2.2) hZ.1, hZ, by rw [z2_ne (by omega)]; exact k4, by rw [z2_ne (by omega)]; exact k5⟩
end CENDS
