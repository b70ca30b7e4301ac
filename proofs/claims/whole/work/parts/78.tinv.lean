-- WHAT IS SO BETWEEN TWO CALLS, on the pure state
/-- who has a line, who gives a supply: just what was taken -/
def GI (T : TT) : Prop := (∀ j y, T.2.1.2.1 j = some y ↔ (3, j) ∈ T.2.2.2.1 y) ∧ (∀ j y, T.2.1.1.2 j = some y ↔ (1, j) ∈ T.2.2.2.1 y) ∧ ∀ y, (T.2.2.2.1 y).Pairwise (fun a b => a.1 ≠ 0 → a ≠ b)
/-- only devices are bound -/
def NB (P : PT) (T : TT) : Prop := ∀ y, T.1.1.1.1 y = 3 → y < P.1.1
def IV (P : PT) (T : TT) : Prop := TI P T ∧ LI P T ∧ LB P T ∧ GI T ∧ NB P T
theorem GI_to {T U : TT} (h : GI T) (h1 : U.2.1.2.1 = T.2.1.2.1) (h2 : U.2.1.1.2 = T.2.1.1.2) (h3 : U.2.2.2.1 = T.2.2.2.1) : GI U := by
  unfold GI
  rw [h1, h2, h3]
  exact h
theorem pw_snoc {l : List (Nat × Nat)} {z : Nat × Nat} (h : l.Pairwise (fun a b => a.1 ≠ 0 → a ≠ b)) (hz : z.1 ≠ 0 → z ∉ l) : (l ++ [z]).Pairwise (fun a b => a.1 ≠ 0 → a ≠ b) := by
  rw [List.pairwise_append]
  refine ⟨h, List.pairwise_singleton _ _, fun a ha b hb h0 e => ?_⟩
  rw [List.mem_singleton.mp hb] at e
  exact hz (by rw [← e]; exact h0) (e ▸ ha)
theorem GI_take0 {T : TT} {x : Nat} {z : Nat × Nat} {v : Int32} (h : GI T) (hz : z.1 = 0) : GI (tTake (u_pool T v) x z) := by
  obtain ⟨h1, h2, h3⟩ := h
  refine ⟨fun j y => ?_, fun j y => ?_, fun y => ?_⟩
  · show T.2.1.2.1 j = some y ↔ (3, j) ∈ va_up T.2.2.2.1 x (T.2.2.2.1 x ++ [z]) y
    rw [h1]
    unfold va_up
    split
    · subst y
      rw [List.mem_append, List.mem_singleton]
      exact ⟨Or.inl, fun z' => z'.elim id (fun e => by rw [← e] at hz; cases hz)⟩
    · exact Iff.rfl
  · show T.2.1.1.2 j = some y ↔ (1, j) ∈ va_up T.2.2.2.1 x (T.2.2.2.1 x ++ [z]) y
    rw [h2]
    unfold va_up
    split
    · subst y
      rw [List.mem_append, List.mem_singleton]
      exact ⟨Or.inl, fun z' => z'.elim id (fun e => by rw [← e] at hz; cases hz)⟩
    · exact Iff.rfl
  · show (va_up T.2.2.2.1 x (T.2.2.2.1 x ++ [z]) y).Pairwise _
    unfold va_up
    split
    · exact pw_snoc (h3 x) (fun e => absurd hz e)
    · exact h3 y
theorem GI_take1 {T : TT} {x : Nat} {z : Nat × Nat} (h : GI T) (hz : z.1 = 1) (hn : T.2.1.1.2 z.2 = none) : GI (tTake (u_ln T (va_up T.2.1.1.2 z.2 (some x))) x z) := by
  obtain ⟨h1, h2, h3⟩ := h
  have hno : ∀ y, (1, z.2) ∉ T.2.2.2.1 y := fun y hy => by
    have := (h2 z.2 y).mpr hy
    rw [hn] at this
    cases this
  have ez : z = (1, z.2) := by rw [← hz]
  refine ⟨fun j y => ?_, fun j y => ?_, fun y => ?_⟩
  · show T.2.1.2.1 j = some y ↔ (3, j) ∈ va_up T.2.2.2.1 x (T.2.2.2.1 x ++ [z]) y
    rw [h1]
    unfold va_up
    split
    · subst y
      rw [List.mem_append, List.mem_singleton]
      exact ⟨Or.inl, fun z' => z'.elim id (fun e => by rw [← e] at hz; cases hz)⟩
    · exact Iff.rfl
  · show va_up T.2.1.1.2 z.2 (some x) j = some y ↔ (1, j) ∈ va_up T.2.2.2.1 x (T.2.2.2.1 x ++ [z]) y
    unfold va_up
    by_cases ej : j = z.2
    · rw [if_pos ej, ej]
      by_cases ey : y = x
      · rw [if_pos ey, ey]
        exact ⟨fun _ => by rw [List.mem_append, List.mem_singleton]; exact Or.inr ez.symm, fun _ => rfl⟩
      · rw [if_neg ey]
        exact ⟨fun e => absurd (Option.some.inj e).symm ey, fun e => absurd e (hno y)⟩
    · rw [if_neg ej, h2]
      by_cases ey : y = x
      · rw [if_pos ey, ey, List.mem_append, List.mem_singleton]
        exact ⟨Or.inl, fun z' => z'.elim id (fun e => absurd (by rw [← e]) ej)⟩
      · rw [if_neg ey]
  · show (va_up T.2.2.2.1 x (T.2.2.2.1 x ++ [z]) y).Pairwise _
    unfold va_up
    split
    · exact pw_snoc (h3 x) (fun _ hm => hno x (by rw [← ez]; exact hm))
    · exact h3 y
theorem GI_take3 {T : TT} {x : Nat} {z : Nat × Nat} (h : GI T) (hz : z.1 = 3) (hn : T.2.1.2.1 z.2 = none) : GI (tTake (u_gv T (va_up T.2.1.2.1 z.2 (some x))) x z) := by
  obtain ⟨h1, h2, h3⟩ := h
  have hno : ∀ y, (3, z.2) ∉ T.2.2.2.1 y := fun y hy => by
    have := (h1 z.2 y).mpr hy
    rw [hn] at this
    cases this
  have ez : z = (3, z.2) := by rw [← hz]
  refine ⟨fun j y => ?_, fun j y => ?_, fun y => ?_⟩
  · show va_up T.2.1.2.1 z.2 (some x) j = some y ↔ (3, j) ∈ va_up T.2.2.2.1 x (T.2.2.2.1 x ++ [z]) y
    unfold va_up
    by_cases ej : j = z.2
    · rw [if_pos ej, ej]
      by_cases ey : y = x
      · rw [if_pos ey, ey]
        exact ⟨fun _ => by rw [List.mem_append, List.mem_singleton]; exact Or.inr ez.symm, fun _ => rfl⟩
      · rw [if_neg ey]
        exact ⟨fun e => absurd (Option.some.inj e).symm ey, fun e => absurd e (hno y)⟩
    · rw [if_neg ej, h1]
      by_cases ey : y = x
      · rw [if_pos ey, ey, List.mem_append, List.mem_singleton]
        exact ⟨Or.inl, fun z' => z'.elim id (fun e => absurd (by rw [← e]) ej)⟩
      · rw [if_neg ey]
  · show T.2.1.1.2 j = some y ↔ (1, j) ∈ va_up T.2.2.2.1 x (T.2.2.2.1 x ++ [z]) y
    rw [h2]
    unfold va_up
    split
    · subst y
      rw [List.mem_append, List.mem_singleton]
      exact ⟨Or.inl, fun z' => z'.elim id (fun e => by rw [← e] at hz; cases hz)⟩
    · exact Iff.rfl
  · show (va_up T.2.2.2.1 x (T.2.2.2.1 x ++ [z]) y).Pairwise _
    unfold va_up
    split
    · exact pw_snoc (h3 x) (fun _ hm => hno x (by rw [← ez]; exact hm))
    · exact h3 y
/-- on a probe's way: what x consumes is bound; others as they were -/
def CO (T U : TT) (x : Nat) : Prop := (∀ a, a ≠ x → U.2.1.1.1 a = T.2.1.1.1 a) ∧ ((∀ y, bt (T.2.1.1.1 x) y = true → T.1.1.1.1 y = 3 ∧ y ≠ x) → ∀ y, bt (U.2.1.1.1 x) y = true → T.1.1.1.1 y = 3 ∧ y ≠ x)
theorem CO.rf {T : TT} {x : Nat} : CO T T x := ⟨fun _ _ => rfl, fun h => h⟩
theorem CO.tr {T U W : TT} {x : Nat} (h : CO T U x) (g : CO U W x) (hs : U.1.1.1.1 = T.1.1.1.1) : CO T W x := ⟨fun a ha => (g.1 a ha).trans (h.1 a ha), fun h0 => by
  have := g.2
  rw [hs] at this
  exact this (h.2 h0)⟩
/-- who gives something is bound, or it is x -/
def GB (T : TT) (x : Nat) : Prop := ∀ y, T.2.2.2.1 y ≠ [] → T.1.1.1.1 y = 3 ∨ y = x
theorem tGets_g {P : PT} {T : TT} {x z : Nat} (hV : PV P) (hT : TV P T) (h : GI T) (hb : GB T x) : GI (tGets P T x z).2 ∧ CO T (tGets P T x z).2 x := by
  unfold tGets
  cases e : T.2.1.2.1 z with
  | none => exact ⟨h, CO.rf⟩
  | some g =>
    dsimp only
    split
    · exact ⟨h, CO.rf⟩
    · rename_i hne
      split
      · exact ⟨h, CO.rf⟩
      · refine ⟨GI_to h rfl rfl rfl, fun a ha => va_up_ne _ _ ha, fun h0 y hy => ?_⟩
        have hg3 : T.1.1.1.1 g = 3 := by
          rcases hb g (fun z' => by have := (h.1 z g).mp e; rw [z'] at this; cases this) with h3 | h3
          · exact h3
          · exact absurd h3 hne
        have hy : bt (va_up T.2.1.1.1 x (T.2.1.1.1 x ||| (nI 1 <<< (nI g &&& 31))) x) y = true := hy
        have := hT.2.2.2.1 z g e
        have := hV.1
        rw [va_up_self, b_or, Bool.or_eq_true, b_bit (by omega), decide_eq_true_eq] at hy
        rcases hy with hy | hy
        · exact h0 y hy
        · rw [hy]; exact ⟨hg3, hne⟩
theorem tDo_g {P : PT} {T : TT} {x : Nat} {z : Nat × Nat} (hV : PV P) (hT : TV P T) (h : GI T) (hb : GB T x) : GI (tDo P T x z).2 ∧ CO T (tDo P T x z).2 x := by
  unfold tDo
  by_cases k0 : z.1 = 0
  · rw [if_pos k0]
    split
    · exact ⟨GI_take0 h k0, fun _ _ => rfl, fun h => h⟩
    · exact ⟨h, CO.rf⟩
  · rw [if_neg k0]
    by_cases k1 : z.1 = 1
    · rw [if_pos k1]
      cases e : T.2.1.1.2 z.2 with
      | none => exact ⟨GI_take1 h k1 e, fun _ _ => rfl, fun h => h⟩
      | some y => exact ⟨h, CO.rf⟩
    · rw [if_neg k1]
      by_cases k2 : z.1 = 2
      · rw [if_pos k2]
        exact tGets_g hV hT h hb
      · rw [if_neg k2]
        by_cases k3 : z.1 = 3
        · rw [if_pos k3]
          cases e : T.2.1.2.1 z.2 with
          | none => exact ⟨GI_take3 h k3 e, fun _ _ => rfl, fun h => h⟩
          | some y => exact ⟨h, CO.rf⟩
        · rw [if_neg k3]
          exact ⟨h, CO.rf⟩
theorem tNeeds_g {P : PT} {x : Nat} (hV : PV P) : ∀ (l : List Nat) (T : TT), TV P T → (∀ z ∈ l, z < 8) → GI T → GB T x → GI (tNeeds P x l T).2 ∧ CO T (tNeeds P x l T).2 x
  | [], T, _, _, h, _ => ⟨h, CO.rf⟩
  | z :: l, T, hT, hz, h, hb => by
    obtain ⟨g1, g2, g3, g4⟩ := tGets_f (x := x) hV hT (hz z List.mem_cons_self)
    obtain ⟨k1, k2⟩ := tGets_g (z := z) hV hT h hb
    unfold tNeeds
    split
    · obtain ⟨q1, q2⟩ := tNeeds_g hV l _ g2 (fun w hw => hz w (List.mem_cons_of_mem _ hw)) k1 (by unfold GB; rw [g4, g1.1]; exact hb)
      exact ⟨q1, k2.tr q2 g1.1⟩
    · exact ⟨k1, k2⟩
theorem tSteps_g {P : PT} {x : Nat} (hV : PV P) (hx : x < P.1.1) : ∀ (l : List (Nat × Nat)) (T : TT), TV P T → (∀ z ∈ l, oks z) → (T.2.2.2.1 x).length + l.length ≤ 6 → GI T → GB T x → GI (tSteps P x l T).2 ∧ CO T (tSteps P x l T).2 x
  | [], T, _, _, _, h, _ => ⟨h, CO.rf⟩
  | z :: l, T, hT, hz, hl, h, hb => by
    rw [List.length_cons] at hl
    obtain ⟨g1, g2, g3, g4⟩ := tDo_f hV hT hx (hz z List.mem_cons_self) (by omega)
    obtain ⟨k1, k2⟩ := tDo_g (z := z) hV hT h hb
    unfold tSteps
    split
    · have hl2 : ((tDo P T x z).2.2.2.2.1 x).length + l.length ≤ 6 := by
        rw [g4, va_up_self]
        split
        · simp; omega
        · omega
      have hb2 : GB (tDo P T x z).2 x := by
        intro y hy
        rw [g1.1]
        by_cases e : y = x
        · exact Or.inr e
        · rw [g4, va_up_ne _ _ e] at hy
          exact hb y hy
      obtain ⟨q1, q2⟩ := tSteps_g hV hx l _ g2 (fun w hw => hz w (List.mem_cons_of_mem _ hw)) hl2 k1 hb2
      exact ⟨q1, k2.tr q2 g1.1⟩
    · exact ⟨k1, k2⟩
theorem tWrong_g {P : PT} {T : TT} {x v : Nat} (hV : PV P) (hT : TI P T) (h : GI T) (hx : x < P.1.1) (hvn : v < P.1.2.1) (h3 : T.1.1.1.1 x ≠ 3) : GI (tWrong P T x v).2 ∧ CO T (tWrong P T x v).2 x := by
  have ht := hT.2.1 x h3
  have hb : GB T x := fun y hy => Or.inl (Classical.byContradiction fun z => hy (hT.2.1 y z))
  have f := tNeeds_f (x := x) hV (P.2.2.1 x) T hT.1 (ne_lt hV hx)
  obtain ⟨k1, k2⟩ := tNeeds_g (x := x) hV (P.2.2.1 x) T hT.1 (ne_lt hV hx) h hb
  unfold tWrong
  cases e : pNo P T x with
  | some y => exact ⟨h, CO.rf⟩
  | none =>
    dsimp only
    split
    · obtain ⟨q1, q2⟩ := tSteps_g hV hx (P.2.2.2.1 v) _ f.2.1 (sp_oks hV hvn) (by rw [f.2.2.2, ht]; have := (hV.2.2.2.2.2.1 v hvn).1; simpa using this) k1 (by unfold GB; rw [f.2.2.2, f.1.1]; exact hb)
      exact ⟨q1, k2.tr q2 f.1.1⟩
    · exact ⟨k1, k2⟩
theorem tRels_gl (x : Nat) : ∀ (l : List (Nat × Nat)) (T : TT), (∀ z ∈ l, okz z) → (∀ j, (tRels x l T).2.1.2.1 j = if (3, j) ∈ l then none else T.2.1.2.1 j) ∧ (∀ j, (tRels x l T).2.1.1.2 j = if (1, j) ∈ l then none else T.2.1.1.2 j)
  | [], T, _ => ⟨fun j => by rw [if_neg (by simp)]; rfl, fun j => by rw [if_neg (by simp)]; rfl⟩
  | z :: l, T, hz => by
    obtain ⟨h1, h2⟩ := tRels_gl x l (tRel1 x T z) (fun w hw => hz w (List.mem_cons_of_mem _ hw))
    have hzz := hz z List.mem_cons_self
    have e1 : ∀ j, (tRel1 x T z).2.1.2.1 j = if z = (3, j) then none else T.2.1.2.1 j := fun j => by
      unfold tRel1 tLog
      rcases hzz with h | ⟨h, -⟩ | ⟨h, -⟩
      · rw [if_neg (by omega), if_pos h]
        exact (if_neg (show ¬ z = (3, j) from fun e => by rw [e] at h; simp at h)).symm
      · rw [if_pos h]
        exact (if_neg (show ¬ z = (3, j) from fun e => by rw [e] at h; simp at h)).symm
      · rw [if_neg (by omega), if_neg (by omega)]
        show va_up T.2.1.2.1 z.2 none j = _
        unfold va_up
        by_cases e : j = z.2
        · rw [if_pos e, if_pos (by rw [e, ← h])]
        · rw [if_neg e, if_neg (fun e' => e (by rw [e']))]
    have e2 : ∀ j, (tRel1 x T z).2.1.1.2 j = if z = (1, j) then none else T.2.1.1.2 j := fun j => by
      unfold tRel1 tLog
      rcases hzz with h | ⟨h, -⟩ | ⟨h, -⟩
      · rw [if_neg (by omega), if_pos h]
        exact (if_neg (show ¬ z = (1, j) from fun e => by rw [e] at h; simp at h)).symm
      · rw [if_pos h]
        show va_up T.2.1.1.2 z.2 none j = _
        unfold va_up
        by_cases e : j = z.2
        · rw [if_pos e, if_pos (by rw [e, ← h])]
        · rw [if_neg e, if_neg (fun e' => e (by rw [e']))]
      · rw [if_neg (by omega), if_neg (by omega)]
        exact (if_neg (show ¬ z = (1, j) from fun e => by rw [e] at h; simp at h)).symm
    refine ⟨fun j => ?_, fun j => ?_⟩
    · show (tRels x l (tRel1 x T z)).2.1.2.1 j = _
      rw [h1, e1]
      by_cases hm : (3, j) ∈ l
      · rw [if_pos hm, if_pos (List.mem_cons_of_mem _ hm)]
      · rw [if_neg hm]
        by_cases e : z = (3, j)
        · rw [if_pos e, if_pos (by rw [e]; exact List.mem_cons_self)]
        · rw [if_neg e, if_neg (fun hh => (List.mem_cons.mp hh).elim (fun q => e q.symm) hm)]
    · show (tRels x l (tRel1 x T z)).2.1.1.2 j = _
      rw [h2, e2]
      by_cases hm : (1, j) ∈ l
      · rw [if_pos hm, if_pos (List.mem_cons_of_mem _ hm)]
      · rw [if_neg hm]
        by_cases e : z = (1, j)
        · rw [if_pos e, if_pos (by rw [e]; exact List.mem_cons_self)]
        · rw [if_neg e, if_neg (fun hh => (List.mem_cons.mp hh).elim (fun q => e q.symm) hm)]
theorem GI_release {T : TT} {x : Nat} (h : GI T) (hz : ∀ z ∈ T.2.2.2.1 x, okz z) : GI (tRelease T x) := by
  obtain ⟨h1, h2, h3⟩ := h
  obtain ⟨g1, g2⟩ := tRels_gl x (T.2.2.2.1 x).reverse T (fun z hh => hz z (List.mem_reverse.mp hh))
  have et := (tRelease_f T x).1
  refine ⟨fun j y => ?_, fun j y => ?_, fun y => ?_⟩
  · rw [et]
    show (tRels x (T.2.2.2.1 x).reverse T).2.1.2.1 j = some y ↔ _
    rw [g1]
    by_cases hm : (3, j) ∈ T.2.2.2.1 x
    · rw [if_pos (List.mem_reverse.mpr hm)]
      refine ⟨fun e => (by cases e), fun e => ?_⟩
      unfold va_up at e
      split at e
      · cases e
      · rename_i hne
        have a := (h1 j y).mpr e
        rw [(h1 j x).mpr hm] at a
        exact absurd (Option.some.inj a).symm hne
    · rw [if_neg (fun z => hm (List.mem_reverse.mp z)), h1]
      unfold va_up
      split
      · subst y
        exact ⟨fun e => absurd e hm, fun e => by cases e⟩
      · exact Iff.rfl
  · rw [et]
    show (tRels x (T.2.2.2.1 x).reverse T).2.1.1.2 j = some y ↔ _
    rw [g2]
    by_cases hm : (1, j) ∈ T.2.2.2.1 x
    · rw [if_pos (List.mem_reverse.mpr hm)]
      refine ⟨fun e => (by cases e), fun e => ?_⟩
      unfold va_up at e
      split at e
      · cases e
      · rename_i hne
        have a := (h2 j y).mpr e
        rw [(h2 j x).mpr hm] at a
        exact absurd (Option.some.inj a).symm hne
    · rw [if_neg (fun z => hm (List.mem_reverse.mp z)), h2]
      unfold va_up
      split
      · subst y
        exact ⟨fun e => absurd e hm, fun e => by cases e⟩
      · exact Iff.rfl
  · rw [et]
    unfold va_up
    split
    · exact List.Pairwise.nil
    · exact h3 y
theorem GI_gone {T : TT} {x : Nat} (h : GI T) (hz : ∀ z ∈ T.2.2.2.1 x, okz z) : GI (tGone T x) := GI_to (GI_release h hz) rfl rfl rfl
/-- a probe keeps what is so -/
theorem tProbe_v {P : PT} {T : TT} {x v : Nat} (hV : PV P) (h : IV P T) (hx : x < P.1.1) (hvn : v < P.1.2.1) (h3 : T.1.1.1.1 x ≠ 3) : IV P (tProbe P T x v).2 := by
  obtain ⟨hT, hL, hB, hG, hN⟩ := h
  obtain ⟨p1, p2, p3, p4, p5⟩ := tProbe_f hV hT hx hvn h3
  obtain ⟨⟨f1, f2, f3, f4, f5, f6, f7, f8, f9, f10, f11⟩, hW, hw⟩ := tWrong_f hV hT.1 hx hvn (hT.2.1 x h3)
  obtain ⟨g1, g2, g3⟩ := tWrong_g hV hT hG hx hvn h3
  have hc0 : ∀ y, bt (T.2.1.1.1 x) y = true → T.1.1.1.1 y = 3 ∧ y ≠ x := fun y hy => by
    rw [hL.2.1 x h3] at hy
    have : bt (nI 0) y = false := b_0 y
    rw [this] at hy
    cases hy
  have hcx := g3 hc0
  refine ⟨p1, ?_⟩
  unfold tProbe at *
  by_cases e : (tWrong P T x v).1.1 = 0
  · rw [if_pos e] at *
    have est : (tHold (tRea P T x v) x v).1.1.1.1 = va_up T.1.1.1.1 x 3 := by show va_up (tWrong P T x v).2.1.1.1.1 x 3 = _; rw [f1]
    have ebn : (tHold (tRea P T x v) x v).1.2.2.1 = T.1.2.2.1 ++ [x] := by show (tWrong P T x v).2.1.2.2.1 ++ [x] = _; rw [f7]
    have eco : (tHold (tRea P T x v) x v).2.1.1.1 = (tWrong P T x v).2.2.1.1.1 := rfl
    have hnx : ∀ a, a ∈ T.1.2.2.1 → a ≠ x := fun a ha e => h3 (by rw [← e]; exact ((hT.1.2.2.1.2 a).mp ha).2)
    have hhg : ∀ a b, a ≠ x → hg P (tHold (tRea P T x v) x v) b a = hg P T b a := fun a b ha => by
      unfold hg
      rw [eco, g2 a ha]
    have hNb : NB P (tHold (tRea P T x v) x v) := fun y hy => by
      rw [est] at hy
      unfold va_up at hy
      split at hy
      · rename_i ey
        rw [ey]; exact hx
      · exact hN y hy
    refine ⟨⟨?_, fun y hy => ?_, fun y => ?_⟩, fun a ha h3a y hy => ?_, GI_to g1 rfl rfl rfl, hNb⟩
    · dsimp only
      rw [ebn, List.pairwise_append]
      refine ⟨List.Pairwise.imp_of_mem (fun {a b} ha hb hab => by rw [hhg a b (hnx a ha)]; exact hab) hL.1, List.pairwise_singleton _ _, fun a ha b hb => ?_⟩
      rw [List.mem_singleton.mp hb, hhg a x (hnx a ha)]
      have ha3 := (hT.1.2.2.1.2 a).mp ha
      unfold hg
      rw [Bool.or_eq_false_iff]
      exact ⟨decide_eq_false (fun z => h3 (hB a ha3.1 ha3.2 x (Or.inl z))), Bool.eq_false_iff.mpr (fun z => h3 (hB a ha3.1 ha3.2 x (Or.inr z)))⟩
    · dsimp only at hy ⊢
      rw [est] at hy
      have e2 : y ≠ x := fun z => by rw [z, va_up_self] at hy; exact hy rfl
      rw [va_up_ne _ _ e2] at hy
      rw [eco, g2 y e2]
      exact hL.2.1 y hy
    · dsimp only
      rw [eco]
      by_cases e2 : y = x
      · subst e2
        exact Bool.eq_false_iff.mpr (fun z => (hcx y z).2 rfl)
      · rw [g2 y e2]
        exact hL.2.2 y
    · dsimp only at h3a hy ⊢
      rw [est] at h3a ⊢
      rw [eco] at hy
      have fin : T.1.1.1.1 y = 3 → va_up T.1.1.1.1 x 3 y = 3 := fun z => by
        unfold va_up
        split
        · rfl
        · exact z
      by_cases e2 : a = x
      · subst e2
        refine fin ?_
        rcases hy with hy | hy
        · have hp : pNo P T a = none := by
            cases hp : pNo P T a with
            | none => rfl
            | some y' =>
              exfalso
              unfold tWrong at e
              rw [hp] at e
              cases e
          unfold pNo at hp
          rw [hy] at hp
          dsimp only at hp
          split at hp
          · assumption
          · cases hp
        · exact (hcx y hy).1
      · rw [va_up_ne _ _ e2] at h3a
        rw [g2 a e2] at hy
        exact fin (hB a ha h3a y hy)
  · rw [if_neg e] at *
    obtain ⟨r1, r2, r3, r4, r5, r6, r7, r8, r9, -⟩ := tRelease_f (tRea P T x v) x
    have est : (tRelease (tRea P T x v) x).1.1.1.1 = T.1.1.1.1 := by rw [r2]; exact f1
    have ebn : (tRelease (tRea P T x v) x).1.2.2.1 = T.1.2.2.1 := by rw [r5]; exact f7
    have eco : ∀ a, (tRelease (tRea P T x v) x).2.1.1.1 a = T.2.1.1.1 a := fun a => by
      rw [r7]
      unfold va_up
      split
      · rename_i ea
        rw [ea, hL.2.1 x h3]
      · rename_i ea
        exact g2 a ea
    refine ⟨⟨?_, fun y hy => ?_, fun y => ?_⟩, fun a ha h3a y hy => ?_, GI_to (GI_release (T := tRea P T x v) (GI_to g1 rfl rfl rfl) (hW.2.2.2.2.2.2.2.1 x)) rfl rfl rfl, fun y hy => hN y (by
      have hy : (tRelease (tRea P T x v) x).1.1.1.1 y = 3 := hy
      rw [est] at hy
      exact hy)⟩
    · show (tRelease (tRea P T x v) x).1.2.2.1.Pairwise _
      rw [ebn]
      refine hL.1.imp (fun {a b} hab => ?_)
      unfold hg at hab ⊢
      have : (tLog (tRelease (tRea P T x v) x) (if (tWrong P T x v).1.1 < 3 then nI 2 else nI 3) (nI x) (nI v)).2.1.1.1 a = T.2.1.1.1 a := eco a
      dsimp only
      rw [this]
      exact hab
    · have hy : (tRelease (tRea P T x v) x).1.1.1.1 y ≠ 3 := hy
      rw [est] at hy
      show (tRelease (tRea P T x v) x).2.1.1.1 y = nI 0
      rw [eco]
      exact hL.2.1 y hy
    · show bt ((tRelease (tRea P T x v) x).2.1.1.1 y) y = false
      rw [eco]
      exact hL.2.2 y
    · have h3a : (tRelease (tRea P T x v) x).1.1.1.1 a = 3 := h3a
      have hy : P.2.1 a = some y ∨ bt ((tRelease (tRea P T x v) x).2.1.1.1 a) y = true := hy
      show (tRelease (tRea P T x v) x).1.1.1.1 y = 3
      rw [est] at h3a ⊢
      rw [eco] at hy
      exact hB a ha h3a y hy
