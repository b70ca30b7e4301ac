-- LETTING GO on the pure state
def hg (P : PT) (T : TT) (x o : Nat) : Bool := decide (P.2.1 o = some x) || bt (T.2.1.1.1 o) x
/-- the one bound latest that leans on x -/
def lean (P : PT) (T : TT) (x : Nat) : Option Nat := T.1.2.2.1.reverse.find? (hg P T x)
/-- it is bound no more, its things released; deferred -/
def tGone (T : TT) (x : Nat) : TT := u_row (u_bnd (u_st (u_sy (tLog (tRelease T x) (nI 4) (nI x) (nI (T.1.1.1.2 x))) (va_up T.1.2.1.1 x false)) (va_up T.1.1.1.1 x 2)) (T.1.2.2.1.filter (· ≠ x))) (if x ∈ T.1.2.1.2 then T.1.2.1.2 else T.1.2.1.2 ++ [x])
def lgLoop (f : TT × List Nat → Nat → TT × List Nat) (g : TT → Option Nat) : Nat → TT × List Nat → TT × List Nat
  | 0, W => W
  | m + 1, W => match g W.1 with
    | none => W
    | some o => lgLoop f g m (f W o)
/-- x is let go, ahead of it all that lean on it; those gone, in order -/
def tLet (P : PT) : Nat → TT × List Nat → Nat → TT × List Nat
  | 0, W, _ => W
  | n + 1, W, x => (tGone (lgLoop (tLet P n) (fun T => lean P T x) 12 W).1 x, (lgLoop (tLet P n) (fun T => lean P T x) 12 W).2 ++ [x])
/-- none leans on one that was bound later; not bound: consumes nothing -/
def LI (P : PT) (T : TT) : Prop := T.1.2.2.1.Pairwise (fun a b => hg P T b a = false) ∧ (∀ x, T.1.1.1.1 x ≠ 3 → T.2.1.1.1 x = nI 0) ∧ ∀ x, bt (T.2.1.1.1 x) x = false
theorem tGone_f (T : TT) (x : Nat) : (tGone T x).2.2.2.1 = va_up T.2.2.2.1 x [] ∧ (tGone T x).1.1.1.1 = va_up T.1.1.1.1 x 2 ∧ (tGone T x).1.1.1.2 = T.1.1.1.2 ∧ (tGone T x).1.2.1.2 = (if x ∈ T.1.2.1.2 then T.1.2.1.2 else T.1.2.1.2 ++ [x]) ∧ (tGone T x).1.2.2.1 = T.1.2.2.1.filter (· ≠ x) ∧ (tGone T x).1.2.2.2 = T.1.2.2.2 ∧ (tGone T x).2.1.1.1 = va_up T.2.1.1.1 x (nI 0) ∧ (tGone T x).2.2.1.2 = T.2.2.1.2 ∧ (tGone T x).2.2.2.2 = T.2.2.2.2 ∧ (tGone T x).1.1.2.1 = T.1.1.2.1 ∧ (tGone T x).1.1.2.2 = T.1.1.2.2 ∧ (tGone T x).1.2.1.1 = va_up T.1.2.1.1 x false := by
  obtain ⟨g1, g2, g3, g4, g5, g6, g7, g8, g9, g10, g11, g12⟩ := tRelease_f T x
  exact ⟨g1, rfl, g3, rfl, rfl, g6, g7, g8, g9, g10, g11, rfl⟩
theorem TV_gone {P : PT} {T : TT} {x : Nat} (h : TV P T) (hx : x < P.1.1) : TV P (tGone T x) := by
  obtain ⟨h1, h2, h3', h4, h5, h6, h7, h8, h9⟩ := TV_release (x := x) h
  obtain ⟨g1, g2, g3, g4, g5, g6, g7, g8, g9, g10, g11, g12⟩ := tRelease_f T x
  refine ⟨fun y => ?_, ⟨?_, fun y hy => ?_⟩, ⟨h.2.2.1.1.sublist List.filter_sublist, fun y => ?_⟩, h4, h5, h6, h7, h8, h9⟩
  · show va_up T.1.1.1.1 x 2 y ≤ 3
    unfold va_up
    split
    · omega
    · exact h.1 y
  · show (if x ∈ T.1.2.1.2 then T.1.2.1.2 else T.1.2.1.2 ++ [x]).Nodup
    split
    · exact h.2.1.1
    · rename_i hm
      rw [List.nodup_append]
      refine ⟨h.2.1.1, by simp, fun a ha b hb e => ?_⟩
      rw [List.mem_singleton.mp hb] at e
      exact hm (e ▸ ha)
  · have hy : y ∈ (if x ∈ T.1.2.1.2 then T.1.2.1.2 else T.1.2.1.2 ++ [x]) := hy
    split at hy
    · exact h.2.1.2 y hy
    · rcases List.mem_append.mp hy with hy | hy
      · exact h.2.1.2 y hy
      · rw [List.mem_singleton.mp hy]; exact hx
  · show y ∈ T.1.2.2.1.filter (· ≠ x) ↔ y < P.1.1 ∧ va_up T.1.1.1.1 x 2 y = 3
    rw [List.mem_filter, h.2.2.1.2 y]
    by_cases e : y = x
    · subst e
      rw [va_up_self]
      simp
    · rw [va_up_ne _ _ e]
      simp [e]
theorem TI_gone {P : PT} {T : TT} {x : Nat} (h : TI P T) (hx : x < P.1.1) : TI P (tGone T x) := by
  obtain ⟨g1, g2, g3, -⟩ := tGone_f T x
  refine ⟨TV_gone h.1 hx, fun y hy => ?_, fun y hy => ?_⟩
  · rw [g2] at hy
    rw [g1]
    by_cases e : y = x
    · subst e; rw [va_up_self]
    · rw [va_up_ne _ _ e] at hy ⊢
      exact h.2.1 y hy
  · rw [g2] at hy
    rw [g1, g3]
    by_cases e : y = x
    · subst e; rw [va_up_self] at hy; cases hy
    · rw [va_up_ne _ _ e] at hy ⊢
      exact h.2.2 y hy
theorem hg_sub {P : PT} {T U : TT} {x o : Nat} (h : ∀ y, U.2.1.1.1 y = T.2.1.1.1 y ∨ U.2.1.1.1 y = nI 0) (hh : hg P T x o = false) : hg P U x o = false := by
  unfold hg at *
  rw [Bool.or_eq_false_iff] at *
  refine ⟨hh.1, ?_⟩
  rcases h o with e | e
  · rw [e]; exact hh.2
  · rw [e]; exact b_0 x
theorem LI_gone {P : PT} {T : TT} {x : Nat} (h : LI P T) : LI P (tGone T x) := by
  obtain ⟨g1, g2, g3, g4, g5, g6, g7, -⟩ := tGone_f T x
  have hc : ∀ y, (tGone T x).2.1.1.1 y = T.2.1.1.1 y ∨ (tGone T x).2.1.1.1 y = nI 0 := fun y => by
    rw [g7]
    unfold va_up
    split
    · exact Or.inr rfl
    · exact Or.inl rfl
  refine ⟨?_, fun y hy => ?_, fun y => ?_⟩
  · rw [g5]
    exact (h.1.sublist List.filter_sublist).imp (fun {a b} hab => hg_sub hc hab)
  · rw [g2] at hy
    rw [g7]
    by_cases e : y = x
    · subst e; rw [va_up_self]
    · rw [va_up_ne _ _ e] at hy ⊢
      exact h.2.1 y hy
  · rcases hc y with e | e
    · rw [e]; exact h.2.2 y
    · rw [e]; exact b_0 y
theorem lean_s {P : PT} {T : TT} {x o : Nat} (h : lean P T x = some o) : o ∈ T.1.2.2.1 ∧ hg P T x o = true := by
  unfold lean at h
  have h1 := List.find?_some h
  have h2 := List.mem_of_find?_eq_some h
  exact ⟨List.mem_reverse.mp h2, h1⟩
/-- one that leans on x comes behind it -/
theorem lean_b {P : PT} {T : TT} {x o : Nat} {A B : List Nat} (hV : PV P) (hT : TV P T) (hL : LI P T) (hb : T.1.2.2.1 = A ++ x :: B) (ho : lean P T x = some o) : ∃ B1 B2, B = B1 ++ o :: B2 := by
  obtain ⟨h1, h2⟩ := lean_s ho
  have hx : x < P.1.1 := ((hT.2.2.1.2 x).mp (by rw [hb]; simp)).1
  have hnx : hg P T x x = false := by
    unfold hg
    rw [hL.2.2 x, Bool.or_false]
    refine decide_eq_false (fun z => ?_)
    have := hV.2.2.2.1 x hx x z
    omega
  rw [hb] at h1
  rcases List.mem_append.mp h1 with h3 | h3
  · exfalso
    have hp := hL.1
    rw [hb, List.pairwise_append] at hp
    have := hp.2.2 o h3 x List.mem_cons_self
    rw [h2] at this
    cases this
  · rcases List.mem_cons.mp h3 with h3 | h3
    · rw [h3, hnx] at h2; cases h2
    · exact List.append_of_mem h3
/-- what a bound one leans on is bound -/
def LB (P : PT) (T : TT) : Prop := ∀ a, a < P.1.1 → T.1.1.1.1 a = 3 → ∀ y, P.2.1 a = some y ∨ bt (T.2.1.1.1 a) y = true → T.1.1.1.1 y = 3
theorem LB_gone {P : PT} {T : TT} {x : Nat} (hT : TV P T) (h : LB P T) (hn : lean P T x = none) : LB P (tGone T x) := by
  obtain ⟨g1, g2, g3, g4, g5, g6, g7, -⟩ := tGone_f T x
  intro a ha h3 y hy
  rw [g2] at h3 ⊢
  rw [g7] at hy
  have e : a ≠ x := fun z => by rw [z, va_up_self] at h3; cases h3
  rw [va_up_ne _ _ e] at h3 hy
  have hy2 : y ≠ x := fun z => by
    have := List.find?_eq_none.mp hn a (List.mem_reverse.mpr ((hT.2.2.1.2 a).mpr ⟨ha, h3⟩))
    apply this
    unfold hg
    rw [← z]
    rcases hy with hy | hy
    · simp [hy]
    · simp [hy]
  rw [va_up_ne _ _ hy2]
  exact h a ha h3 y hy
/-- what letting go x leaves: of those behind x some; those gone -/
def LK (P : PT) (A B : List Nat) (x : Nat) (W V : TT × List Nat) : Prop := TI P V.1 ∧ LI P V.1 ∧ (∃ B', B'.Sublist B ∧ V.1.1.2.2.1 = A ++ B' ∧ ∃ G, V.2 = W.2 ++ G ∧ G.length + B'.length = B.length + 1 ∧ (∀ y ∈ G, y = x ∨ y ∈ B)) ∧ V.1.2.2.2.2 = W.1.2.2.2.2 ∧ V.1.2.2.1.2 = W.1.2.2.1.2 ∧ V.1.1.1.1.2 = W.1.1.1.1.2 ∧ (∀ y, W.1.1.1.1.1 y ≠ 3 → V.1.1.1.1.1 y = W.1.1.1.1.1 y) ∧ (∀ y, V.1.1.1.1.1 y = 3 → W.1.1.1.1.1 y = 3) ∧ V.1.1.1.1.1 x = 2 ∧ (LB P W.1 → LB P V.1)
theorem fl_mid {A B : List Nat} {x : Nat} (h : (A ++ x :: B).Nodup) : (A ++ x :: B).filter (· ≠ x) = A ++ B := by
  rw [List.nodup_append] at h
  obtain ⟨h1, h2, h3⟩ := h
  rw [List.nodup_cons] at h2
  rw [List.filter_append, List.filter_cons_of_neg (by simp)]
  rw [List.filter_eq_self.mpr (fun y hy => by simp; rintro rfl; exact h3 y hy y List.mem_cons_self rfl), List.filter_eq_self.mpr (fun y hy => by simp; rintro rfl; exact h2.1 hy)]
theorem tLet_f {P : PT} (hV : PV P) : ∀ (n : Nat) (W : TT × List Nat) (x : Nat) (A B : List Nat), TI P W.1 → LI P W.1 → W.1.1.2.2.1 = A ++ x :: B → B.length < n → LK P A B x W (tLet P n W x)
  | 0, _, _, _, B, _, _, _, h => by omega
  | n + 1, W, x, A, B, hT, hL, hb, hn => by
    have loop : ∀ (m : Nat) (U : TT × List Nat) (C : List Nat), TI P U.1 → LI P U.1 → U.1.1.2.2.1 = A ++ x :: C → C.length < n + 1 → C.length ≤ m → ∃ C', C'.Sublist C ∧ (lgLoop (tLet P n) (fun T => lean P T x) m U).1.1.2.2.1 = A ++ x :: C' ∧ TI P (lgLoop (tLet P n) (fun T => lean P T x) m U).1 ∧ LI P (lgLoop (tLet P n) (fun T => lean P T x) m U).1 ∧ (∃ G, (lgLoop (tLet P n) (fun T => lean P T x) m U).2 = U.2 ++ G ∧ G.length + C'.length = C.length ∧ ∀ y ∈ G, y ∈ C) ∧ (lgLoop (tLet P n) (fun T => lean P T x) m U).1.2.2.2.2 = U.1.2.2.2.2 ∧ (lgLoop (tLet P n) (fun T => lean P T x) m U).1.2.2.1.2 = U.1.2.2.1.2 ∧ (lgLoop (tLet P n) (fun T => lean P T x) m U).1.1.1.1.2 = U.1.1.1.1.2 ∧ (∀ y, U.1.1.1.1.1 y ≠ 3 → (lgLoop (tLet P n) (fun T => lean P T x) m U).1.1.1.1.1 y = U.1.1.1.1.1 y) ∧ (∀ y, (lgLoop (tLet P n) (fun T => lean P T x) m U).1.1.1.1.1 y = 3 → U.1.1.1.1.1 y = 3) ∧ lean P (lgLoop (tLet P n) (fun T => lean P T x) m U).1 x = none ∧ (LB P U.1 → LB P (lgLoop (tLet P n) (fun T => lean P T x) m U).1) := by
      intro m
      induction m with
      | zero =>
        intro U C hU hLU hbU hC hm
        obtain rfl : C = [] := List.length_eq_zero_iff.mp (by omega)
        refine ⟨[], List.Sublist.refl _, hbU, hU, hLU, ⟨[], (List.append_nil _).symm, rfl, fun y hy => by cases hy⟩, rfl, rfl, rfl, fun _ _ => rfl, fun _ h => h, ?_, fun h => h⟩
        cases e : lean P U.1 x with
        | none => exact e
        | some o =>
          obtain ⟨B1, B2, e2⟩ := lean_b hV hU.1 hLU hbU e
          cases B1 <;> cases e2
      | succ m ih =>
        intro U C hU hLU hbU hC hm
        unfold lgLoop
        cases e : lean P U.1 x with
        | none => exact ⟨C, List.Sublist.refl _, hbU, hU, hLU, ⟨[], (List.append_nil _).symm, by simp, fun y hy => by cases hy⟩, rfl, rfl, rfl, fun _ _ => rfl, fun _ h => h, e, fun h => h⟩
        | some o =>
          dsimp only
          obtain ⟨B1, B2, e2⟩ := lean_b hV hU.1 hLU hbU e
          have e3 : U.1.1.2.2.1 = (A ++ x :: B1) ++ o :: B2 := by rw [hbU, e2]; simp
          have hlen : B1.length + B2.length + 1 = C.length := by rw [e2]; simp; omega
          obtain ⟨k1, k2, ⟨B', k3, k4, G, k5, k6, k7⟩, k8, k9, k10, k11, k12, k13, k14⟩ := tLet_f hV n U o (A ++ x :: B1) B2 hU hLU e3 (by omega)
          have hsl := k3.length_le
          obtain ⟨C', q1, q2, q3, q4, ⟨G2, q5, q6, q7⟩, q8, q9, q10, q11, q12, q13, q14⟩ := ih (tLet P n U o) (B1 ++ B') k1 k2 (by rw [k4]; simp) (by rw [List.length_append]; omega) (by rw [List.length_append]; omega)
          have hs1 : (B1 ++ B').Sublist C := by
            rw [e2]
            exact List.Sublist.append (List.Sublist.refl _) (k3.trans (List.sublist_cons_self _ _))
          refine ⟨C', q1.trans hs1, q2, q3, q4, ⟨G ++ G2, by rw [q5, k5, List.append_assoc], by rw [List.length_append] at q6 ⊢; omega, fun y hy => ?_⟩, q8.trans k8, q9.trans k9, q10.trans k10, fun y hy => ?_, fun y hy => k12 y (q12 y hy), q13, fun hh => q14 (k14 hh)⟩
          · rcases List.mem_append.mp hy with hy | hy
            · rw [e2]
              rcases k7 y hy with rfl | hy
              · simp
              · simp [hy]
            · exact hs1.mem (q7 y hy)
          · rw [q11 y (by rw [k11 y hy]; exact hy), k11 y hy]
    have hbl : B.length ≤ 12 := by
      have h1 := nd_len hT.1.2.2.1.1 (hT.1.bnd hV)
      rw [hb] at h1
      simp at h1
      omega
    obtain ⟨C', q1, q2, q3, q4, ⟨G, q5, q6, q7⟩, q8, q9, q10, q11, q12, q13, q14⟩ := loop 12 W B hT hL hb hn hbl
    have hx : x < P.1.1 := ((hT.1.2.2.1.2 x).mp (by rw [hb]; simp)).1
    unfold tLet
    obtain ⟨g1, g2, g3, g4, g5, g6, g7, g8, g9, -⟩ := tGone_f (lgLoop (tLet P n) (fun T => lean P T x) 12 W).1 x
    refine ⟨TI_gone q3 hx, LI_gone q4, ⟨C', q1, ?_, G ++ [x], ?_, ?_, fun y hy => ?_⟩, g9.trans q8, g8.trans q9, g3.trans q10, fun y hy => ?_, fun y hy => ?_, ?_, fun hh => LB_gone q3.1 (q14 hh) q13⟩
    · dsimp only
      rw [g5, q2, fl_mid (by rw [← q2]; exact q3.1.2.2.1.1)]
    · dsimp only
      rw [q5, List.append_assoc]
    · simp; omega
    · rcases List.mem_append.mp hy with hy | hy
      · exact Or.inr (q7 y hy)
      · exact Or.inl (List.mem_singleton.mp hy)
    · dsimp only
      rw [g2]
      have e : y ≠ x := fun z => hy (by rw [z]; exact ((hT.1.2.2.1.2 x).mp (by rw [hb]; simp)).2)
      rw [va_up_ne _ _ e]
      exact q11 y hy
    · dsimp only at hy
      rw [g2] at hy
      unfold va_up at hy
      split at hy
      · cases hy
      · exact q12 y hy
    · dsimp only
      rw [g2, va_up_self]
