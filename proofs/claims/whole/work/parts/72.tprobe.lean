-- PROBES on the pure state: held, tried, passes
def tHold (T : TT) (x v : Nat) : TT := tLog (u_lk (u_cn (u_bnd (u_by (u_st (u_row T (T.1.2.1.2.filter (· ≠ x))) (va_up T.1.1.1.1 x 3)) (va_up T.1.1.1.2 x v)) (T.1.2.2.1 ++ [x])) (T.2.2.2.2 + 1)) (va_up T.1.2.2.2 x (T.1.2.2.2 x ||| T.2.1.1.1 x))) (nI 1) (nI x) (nI v)
/-- the reason and with what, behind what was wrong -/
noncomputable def tRea (P : PT) (T : TT) (x v : Nat) : TT := u_ca (u_re (tWrong P T x v).2 (va_up (tWrong P T x v).2.1.1.2.1 x (nI (tWrong P T x v).1.1))) (va_up (tWrong P T x v).2.1.1.2.2 x (tWrong P T x v).1.2)
noncomputable def tProbe (P : PT) (T : TT) (x v : Nat) : Nat × TT := if (tWrong P T x v).1.1 = 0 then (0, tHold (tRea P T x v) x v) else ((tWrong P T x v).1.1, tLog (tRelease (tRea P T x v) x) (if (tWrong P T x v).1.1 < 3 then nI 2 else nI 3) (nI x) (nI v))
noncomputable def tEnd1 (P : PT) (T : TT) (x v : Nat) : Bool × TT := if (tProbe P T x v).1 = 1 ∨ (tProbe P T x v).1 = 2 then (true, tDefer (tProbe P T x v).2 x) else (decide ((tProbe P T x v).1 < 3), (tProbe P T x v).2)
noncomputable def tTryL (P : PT) (x : Nat) : List Nat → TT → TT
  | [], T => tIdle T x
  | v :: l, T => if (tEnd1 P T x v).1 then (tEnd1 P T x v).2 else tTryL P x l (tEnd1 P T x v).2
noncomputable def tTry (P : PT) (T : TT) (x : Nat) : TT := tTryL P x (lnL P T x) T
noncomputable def tPass (P : PT) : List Nat → TT → TT
  | [], T => T
  | x :: l, T => tPass P l (if T.1.1.1.1 x = 2 then tTry P T x else T)
noncomputable def tSettle (P : PT) : Nat → Nat → TT → TT
  | 0, _, T => T
  | n + 1, had, T => if had < T.2.2.2.2 then tSettle P n T.2.2.2.2 (tPass P T.1.2.1.2 T) else T
/-- what is so between two calls -/
def TI (P : PT) (T : TT) : Prop := TV P T ∧ (∀ x, T.1.1.1.1 x ≠ 3 → T.2.2.2.1 x = []) ∧ (∀ x, T.1.1.1.1 x = 3 → T.1.1.1.2 x < P.1.2.1 ∧ T.2.2.2.1 x = (P.2.2.2.1 (T.1.1.1.2 x)).filter isT)
/-- what binding keeps -/
def BF (T U : TT) : Prop := U.2.2.1.2 = T.2.2.1.2 ∧ U.2.2.2.2 + T.1.2.2.1.length = T.2.2.2.2 + U.1.2.2.1.length ∧ T.2.2.2.2 ≤ U.2.2.2.2 ∧ ∀ y, T.1.1.1.1 y = 3 → U.1.1.1.1 y = 3
theorem BF.rf {T : TT} : BF T T := ⟨rfl, rfl, Nat.le_refl _, fun _ h => h⟩
theorem BF.tr {T U W : TT} (h : BF T U) (g : BF U W) : BF T W := ⟨g.1.trans h.1, by have := h.2.1; have := g.2.1; omega, Nat.le_trans h.2.2.1 g.2.2.1, fun y hy => g.2.2.2 y (h.2.2.2 y hy)⟩
theorem TV_log {P : PT} {T : TT} {a b e : Int32} (h : TV P T) : TV P (tLog T a b e) := h
theorem TV_pool {P : PT} {T : TT} {a : Int32} (h : TV P T) : TV P (u_pool T a) := h
theorem TV_re {P : PT} {T : TT} {a : Nat → Int32} (h : TV P T) : TV P (u_re T a) := h
theorem TV_ca {P : PT} {T : TT} {a : Nat → Int32} (h : TV P T) : TV P (u_ca T a) := h
theorem TV_rel1 {P : PT} {T : TT} {x : Nat} {z : Nat × Nat} (h : TV P T) : TV P (tRel1 x T z) := by
  unfold tRel1
  refine TV_log ?_
  split
  · exact TV_ln h (fun y hy => by cases hy)
  · split
    · exact TV_pool h
    · exact TV_gv h (fun y hy => by cases hy)
theorem TV_rels {P : PT} {x : Nat} : ∀ (l : List (Nat × Nat)) (T : TT), TV P T → TV P (tRels x l T)
  | [], _, h => h
  | _ :: l, _, h => TV_rels l _ (TV_rel1 h)
theorem TV_release {P : PT} {T : TT} {x : Nat} (h : TV P T) : TV P (tRelease T x) := by
  unfold tRelease
  refine TV_co (TV_tk (TV_rels _ _ h) (Nat.zero_le _) (fun z hz => by cases hz)) (fun j hj => ?_)
  have : bt (nI 0) j = false := b_0 j
  rw [this] at hj
  cases hj
theorem tRelease_f (T : TT) (x : Nat) : (tRelease T x).2.2.2.1 = va_up T.2.2.2.1 x [] ∧ (tRelease T x).1.1.1.1 = T.1.1.1.1 ∧ (tRelease T x).1.1.1.2 = T.1.1.1.2 ∧ (tRelease T x).1.2.1.2 = T.1.2.1.2 ∧ (tRelease T x).1.2.2.1 = T.1.2.2.1 ∧ (tRelease T x).1.2.2.2 = T.1.2.2.2 ∧ (tRelease T x).2.1.1.1 = va_up T.2.1.1.1 x (nI 0) ∧ (tRelease T x).2.2.1.2 = T.2.2.1.2 ∧ (tRelease T x).2.2.2.2 = T.2.2.2.2 ∧ (tRelease T x).1.1.2.1 = T.1.1.2.1 ∧ (tRelease T x).1.1.2.2 = T.1.1.2.2 ∧ (tRelease T x).1.2.1.1 = T.1.2.1.1 := by
  obtain ⟨g1, g2, g3, g4, g5, g6, g7, g8, g9, g10, g11, g12⟩ := tRels_f x (T.2.2.2.1 x).reverse T
  unfold tRelease
  exact ⟨by show va_up (tRels x (T.2.2.2.1 x).reverse T).2.2.2.1 x [] = _; rw [g1], g2, g3, g4, g5, g6, by show va_up (tRels x (T.2.2.2.1 x).reverse T).2.1.1.1 x (nI 0) = _; rw [g7], g8, g9, g10, g11, g12⟩
theorem TV_st {P : PT} {T : TT} {x v : Nat} (h : TV P T) (h3 : T.1.1.1.1 x ≠ 3) (hv : v < 3) : TV P (u_st T (va_up T.1.1.1.1 x v)) := by
  obtain ⟨h1, h2, h3', h4, h5, h6, h7, h8, h9⟩ := h
  refine ⟨fun y => ?_, h2, ⟨h3'.1, fun y => ?_⟩, h4, h5, h6, h7, h8, h9⟩
  · show va_up T.1.1.1.1 x v y ≤ 3
    unfold va_up
    split
    · omega
    · exact h1 y
  · show y ∈ T.1.2.2.1 ↔ y < P.1.1 ∧ va_up T.1.1.1.1 x v y = 3
    by_cases e : y = x
    · subst e
      rw [va_up_self, h3'.2 y]
      constructor
      · exact fun z => absurd z.2 h3
      · exact fun z => absurd z.2 (by omega)
    · rw [va_up_ne _ _ e]
      exact h3'.2 y
theorem TV_row {P : PT} {T : TT} {l : List Nat} (h : TV P T) (h1 : l.Nodup) (h2 : ∀ y ∈ l, y < P.1.1) : TV P (u_row T l) := ⟨h.1, ⟨h1, h2⟩, h.2.2⟩
theorem TV_defer {P : PT} {T : TT} {x : Nat} (h : TV P T) (hx : x < P.1.1) (h3 : T.1.1.1.1 x ≠ 3) : TV P (tDefer T x) := by
  unfold tDefer
  refine TV_row (TV_st h h3 (by decide)) ?_ ?_
  · split
    · exact h.2.1.1
    · rename_i hm
      rw [List.nodup_append]
      refine ⟨h.2.1.1, by simp, fun a ha b hb e => ?_⟩
      rw [List.mem_singleton.mp hb] at e
      exact hm (e ▸ ha)
  · intro y hy
    split at hy
    · exact h.2.1.2 y hy
    · rcases List.mem_append.mp hy with hy | hy
      · exact h.2.1.2 y hy
      · rw [List.mem_singleton.mp hy]; exact hx
theorem TV_idle {P : PT} {T : TT} {x : Nat} (h : TV P T) (h3 : T.1.1.1.1 x ≠ 3) : TV P (tIdle T x) := by
  unfold tIdle
  exact TV_row (TV_st h h3 (by decide)) (h.2.1.1.sublist List.filter_sublist) (fun y hy => h.2.1.2 y (List.mem_filter.mp hy).1)
theorem TV_hold {P : PT} {T : TT} {x v : Nat} (h : TV P T) (hx : x < P.1.1) (h3 : T.1.1.1.1 x ≠ 3) : TV P (tHold T x v) := by
  obtain ⟨h1, h2, h3', h4, h5, h6, h7, h8, h9⟩ := h
  have hm : x ∉ T.1.2.2.1 := fun z => h3 ((h3'.2 x).mp z).2
  refine ⟨fun y => ?_, ⟨h2.1.sublist List.filter_sublist, fun y hy => h2.2 y (List.mem_filter.mp hy).1⟩, ⟨?_, fun y => ?_⟩, h4, h5, fun y j hj => ?_, h7, h8, h9⟩
  · show va_up T.1.1.1.1 x 3 y ≤ 3
    unfold va_up
    split
    · omega
    · exact h1 y
  · show (T.1.2.2.1 ++ [x]).Nodup
    rw [List.nodup_append]
    refine ⟨h3'.1, by simp, fun a ha b hb e => ?_⟩
    rw [List.mem_singleton.mp hb] at e
    exact hm (e ▸ ha)
  · show y ∈ T.1.2.2.1 ++ [x] ↔ y < P.1.1 ∧ va_up T.1.1.1.1 x 3 y = 3
    rw [List.mem_append, List.mem_singleton, h3'.2 y]
    by_cases e : y = x
    · subst e
      rw [va_up_self]
      simp [hx]
    · rw [va_up_ne _ _ e]
      simp [e]
  · have hj : bt (va_up T.1.2.2.2 x (T.1.2.2.2 x ||| T.2.1.1.1 x) y) j = true := hj
    unfold va_up at hj
    split at hj
    · rw [b_or, Bool.or_eq_true] at hj
      rcases hj with hj | hj
      · exact h6 x j hj
      · exact h7 x j hj
    · exact h6 y j hj
theorem tWrong_tk {P : PT} {T : TT} {x v : Nat} (hV : PV P) (hv : TV P T) (hx : x < P.1.1) (hvn : v < P.1.2.1) (ht : T.2.2.2.1 x = []) : (∀ y, y ≠ x → (tWrong P T x v).2.2.2.2.1 y = T.2.2.2.1 y) ∧ ((tWrong P T x v).1.1 = 0 → (tWrong P T x v).2.2.2.2.1 x = (P.2.2.2.1 v).filter isT) := by
  unfold tWrong
  have h3 := tNeeds_f (x := x) hV (P.2.2.1 x) T hv (ne_lt hV hx)
  cases e : pNo P T x with
  | some y => exact ⟨fun _ _ => rfl, fun z => by cases z⟩
  | none =>
    dsimp only
    split
    · have h4 := tSteps_f hV hx (P.2.2.2.1 v) _ h3.2.1 (sp_oks hV hvn) (by rw [h3.2.2.2, ht]; have := (hV.2.2.2.2.2.1 v hvn).1; simpa using this)
      rw [h4.2.2.2.1, h3.2.2.2]
      refine ⟨fun y hy => va_up_ne _ _ hy, fun hh => ?_⟩
      rw [va_up_self, ht, List.nil_append, h4.2.2.2.2.2 hh, List.take_of_length_le (Nat.le_refl _)]
    · rename_i hne
      exact ⟨fun y _ => by rw [h3.2.2.2], fun hh => absurd hh hne⟩
/-- a probe: what it leaves -/
theorem tProbe_f {P : PT} {T : TT} {x v : Nat} (hV : PV P) (hT : TI P T) (hx : x < P.1.1) (hvn : v < P.1.2.1) (h3 : T.1.1.1.1 x ≠ 3) : TI P (tProbe P T x v).2 ∧ BF T (tProbe P T x v).2 ∧ (tProbe P T x v).1 ≤ 7 ∧ ((tProbe P T x v).1 = 0 → (tProbe P T x v).2.2.2.2.2 = T.2.2.2.2 + 1 ∧ (tProbe P T x v).2.1.1.1.1 = va_up T.1.1.1.1 x 3) ∧ ((tProbe P T x v).1 ≠ 0 → (tProbe P T x v).2.2.2.2.2 = T.2.2.2.2 ∧ (tProbe P T x v).2.1.1.1.1 = T.1.1.1.1) := by
  obtain ⟨hv, ht, hb⟩ := hT
  obtain ⟨⟨f1, f2, f3, f4, f5, f6, f7, f8, f9, f10, f11⟩, hW, hw⟩ := tWrong_f hV hv hx hvn (ht x h3)
  obtain ⟨k1, k2⟩ := tWrong_tk hV hv hx hvn (ht x h3)
  have hR : TV P (tRea P T x v) := TV_ca (TV_re hW)
  unfold tProbe
  by_cases e : (tWrong P T x v).1.1 = 0
  · rw [if_pos e]
    have h3' : (tRea P T x v).1.1.1.1 x ≠ 3 := by show (tWrong P T x v).2.1.1.1.1 x ≠ 3; rw [f1]; exact h3
    have est : (tHold (tRea P T x v) x v).1.1.1.1 = va_up T.1.1.1.1 x 3 := by show va_up (tWrong P T x v).2.1.1.1.1 x 3 = _; rw [f1]
    have eby : (tHold (tRea P T x v) x v).1.1.1.2 = va_up T.1.1.1.2 x v := by show va_up (tWrong P T x v).2.1.1.1.2 x v = _; rw [f2]
    have etk : (tHold (tRea P T x v) x v).2.2.2.1 = (tWrong P T x v).2.2.2.2.1 := rfl
    have ebn : (tHold (tRea P T x v) x v).1.2.2.1 = T.1.2.2.1 ++ [x] := by show (tWrong P T x v).2.1.2.2.1 ++ [x] = _; rw [f7]
    have ecn : (tHold (tRea P T x v) x v).2.2.2.2 = T.2.2.2.2 + 1 := by show (tWrong P T x v).2.2.2.2.2 + 1 = _; rw [f11]
    have eld : (tHold (tRea P T x v) x v).2.2.1.2 = T.2.2.1.2 := by show (tWrong P T x v).2.2.2.1.2 = _; rw [f10]
    refine ⟨⟨TV_hold hR hx h3', fun y hy => ?_, fun y hy => ?_⟩, ⟨eld, by rw [ecn, ebn]; simp; omega, by rw [ecn]; omega, fun y hy => ?_⟩, Nat.zero_le _, fun _ => ⟨ecn, est⟩, fun z => absurd rfl z⟩
    · rw [est] at hy
      rw [etk]
      by_cases e2 : y = x
      · subst e2; rw [va_up_self] at hy; exact absurd rfl hy
      · rw [va_up_ne _ _ e2] at hy
        rw [k1 y e2]
        exact ht y hy
    · rw [est] at hy
      rw [etk, eby]
      by_cases e2 : y = x
      · subst e2
        rw [va_up_self]
        exact ⟨hvn, k2 e⟩
      · rw [va_up_ne _ _ e2] at hy
        rw [va_up_ne _ _ e2, k1 y e2]
        exact hb y hy
    · rw [est]
      unfold va_up
      split
      · rfl
      · exact hy
  · rw [if_neg e]
    obtain ⟨r1, r2, r3, r4, r5, r6, r7, r8, r9, -⟩ := tRelease_f (tRea P T x v) x
    have est : (tRelease (tRea P T x v) x).1.1.1.1 = T.1.1.1.1 := by rw [r2]; exact f1
    refine ⟨⟨TV_log (TV_release hR), fun y hy => ?_, fun y hy => ?_⟩, ⟨?_, ?_, ?_, fun y hy => ?_⟩, hw.1, fun z => absurd z e, fun _ => ⟨?_, est⟩⟩
    · have hy : (tRelease (tRea P T x v) x).1.1.1.1 y ≠ 3 := hy
      rw [est] at hy
      show (tRelease (tRea P T x v) x).2.2.2.1 y = []
      rw [r1]
      by_cases e2 : y = x
      · subst e2; rw [va_up_self]
      · rw [va_up_ne _ _ e2]
        exact (k1 y e2).trans (ht y hy)
    · have hy : (tRelease (tRea P T x v) x).1.1.1.1 y = 3 := hy
      rw [est] at hy
      have e2 : y ≠ x := fun z => h3 (z ▸ hy)
      show (tRelease (tRea P T x v) x).1.1.1.2 y < P.1.2.1 ∧ (tRelease (tRea P T x v) x).2.2.2.1 y = (P.2.2.2.1 ((tRelease (tRea P T x v) x).1.1.1.2 y)).filter isT
      rw [r1, r3, va_up_ne _ _ e2]
      have := hb y hy
      rw [← f2] at this
      exact ⟨this.1, (k1 y e2).trans this.2⟩
    · exact r8.trans f10
    · show (tRelease (tRea P T x v) x).2.2.2.2 + _ = _ + (tRelease (tRea P T x v) x).1.2.2.1.length
      rw [r9, r5]
      show (tWrong P T x v).2.2.2.2.2 + _ = _ + (tWrong P T x v).2.1.2.2.1.length
      rw [f11, f7]
    · show _ ≤ (tRelease (tRea P T x v) x).2.2.2.2
      rw [r9]
      show _ ≤ (tWrong P T x v).2.2.2.2.2
      rw [f11]
      exact Nat.le_refl _
    · show (tRelease (tRea P T x v) x).1.1.1.1 y = 3
      rw [est]
      exact hy
    · exact r9.trans f11
theorem TI_to {P : PT} {T U : TT} (h : TI P T) (hv : TV P U) (h1 : U.2.2.2.1 = T.2.2.2.1) (h2 : U.1.1.1.2 = T.1.1.1.2) (h3 : ∀ y, U.1.1.1.1 y = 3 ↔ T.1.1.1.1 y = 3) : TI P U := ⟨hv, fun y hy => by rw [h1]; exact h.2.1 y (fun z => hy ((h3 y).mpr z)), fun y hy => by rw [h1, h2]; exact h.2.2 y ((h3 y).mp hy)⟩
theorem st_3 {f : Nat → Nat} {x v : Nat} (h : f x ≠ 3) (hv : v ≠ 3) (y : Nat) : va_up f x v y = 3 ↔ f y = 3 := by
  unfold va_up
  split
  · subst y
    exact ⟨fun z => absurd z hv, fun z => absurd z h⟩
  · exact Iff.rfl
theorem TI_defer {P : PT} {T : TT} {x : Nat} (h : TI P T) (hx : x < P.1.1) (h3 : T.1.1.1.1 x ≠ 3) : TI P (tDefer T x) := TI_to h (TV_defer h.1 hx h3) rfl rfl (st_3 h3 (by decide))
theorem TI_idle {P : PT} {T : TT} {x : Nat} (h : TI P T) (h3 : T.1.1.1.1 x ≠ 3) : TI P (tIdle T x) := TI_to h (TV_idle h.1 h3) rfl rfl (st_3 h3 (by decide))
theorem BF_defer {T : TT} {x : Nat} (h3 : T.1.1.1.1 x ≠ 3) : BF T (tDefer T x) := ⟨rfl, rfl, Nat.le_refl _, fun y hy => (st_3 h3 (by decide) y).mpr hy⟩
theorem BF_idle {T : TT} {x : Nat} (h3 : T.1.1.1.1 x ≠ 3) : BF T (tIdle T x) := ⟨rfl, rfl, Nat.le_refl _, fun y hy => (st_3 h3 (by decide) y).mpr hy⟩
theorem tEnd1_f {P : PT} {T : TT} {x v : Nat} (hV : PV P) (hT : TI P T) (hx : x < P.1.1) (hvn : v < P.1.2.1) (h3 : T.1.1.1.1 x ≠ 3) : TI P (tEnd1 P T x v).2 ∧ BF T (tEnd1 P T x v).2 ∧ ((tEnd1 P T x v).1 = false → (tEnd1 P T x v).2.1.1.1.1 x ≠ 3) := by
  obtain ⟨g1, g2, g3, g4, g5⟩ := tProbe_f hV hT hx hvn h3
  unfold tEnd1
  split
  · rename_i e
    have h5 : (tProbe P T x v).2.1.1.1.1 x ≠ 3 := by rw [(g5 (by omega)).2]; exact h3
    exact ⟨TI_defer g1 hx h5, g2.tr (BF_defer h5), fun z => by cases z⟩
  · refine ⟨g1, g2, fun z => ?_⟩
    have z := of_decide_eq_false z
    rw [(g5 (by omega)).2]
    exact h3
theorem tTryL_f {P : PT} {x : Nat} (hV : PV P) (hx : x < P.1.1) : ∀ (l : List Nat) (T : TT), (∀ v ∈ l, v < P.1.2.1) → TI P T → T.1.1.1.1 x ≠ 3 → TI P (tTryL P x l T) ∧ BF T (tTryL P x l T)
  | [], T, _, h, h3 => ⟨TI_idle h h3, BF_idle h3⟩
  | v :: l, T, hl, h, h3 => by
    obtain ⟨g1, g2, g3⟩ := tEnd1_f hV h hx (hl v List.mem_cons_self) h3
    unfold tTryL
    cases e : (tEnd1 P T x v).1 with
    | true => exact ⟨g1, g2⟩
    | false =>
      obtain ⟨k1, k2⟩ := tTryL_f hV hx l _ (fun w hw => hl w (List.mem_cons_of_mem _ hw)) g1 (g3 e)
      exact ⟨k1, g2.tr k2⟩
theorem tTry_f {P : PT} {T : TT} {x : Nat} (hV : PV P) (hT : TI P T) (hx : x < P.1.1) (h3 : T.1.1.1.1 x ≠ 3) : TI P (tTry P T x) ∧ BF T (tTry P T x) := tTryL_f hV hx _ T (fun _ hv => lnL_lt hV hx hv) hT h3
theorem tPass_f {P : PT} (hV : PV P) : ∀ (l : List Nat) (T : TT), (∀ y ∈ l, y < P.1.1) → TI P T → TI P (tPass P l T) ∧ BF T (tPass P l T)
  | [], T, _, h => ⟨h, BF.rf⟩
  | x :: l, T, hl, h => by
    unfold tPass
    split
    · rename_i e
      obtain ⟨g1, g2⟩ := tTry_f hV h (hl x List.mem_cons_self) (by omega)
      obtain ⟨k1, k2⟩ := tPass_f hV l _ (fun y hy => hl y (List.mem_cons_of_mem _ hy)) g1
      exact ⟨k1, g2.tr k2⟩
    · exact tPass_f hV l T (fun y hy => hl y (List.mem_cons_of_mem _ hy)) h
theorem tSettle_f {P : PT} (hV : PV P) : ∀ (n had : Nat) (T : TT), TI P T → TI P (tSettle P n had T) ∧ BF T (tSettle P n had T)
  | 0, _, T, h => ⟨h, BF.rf⟩
  | n + 1, had, T, h => by
    unfold tSettle
    split
    · obtain ⟨g1, g2⟩ := tPass_f hV T.1.2.1.2 T h.1.2.1.2 h
      obtain ⟨k1, k2⟩ := tSettle_f hV n T.2.2.2.2 _ g1
      exact ⟨k1, g2.tr k2⟩
    · exact ⟨h, BF.rf⟩
