-- LETTING GO on the pure state: those gone, those idle
theorem lg_g {P : PT} {n x : Nat} (hf : ∀ W y, tLet P n W y = ((tLet P n (W.1, []) y).1, W.2 ++ (tLet P n (W.1, []) y).2)) : ∀ (m : Nat) (W : TT × List Nat), lgLoop (tLet P n) (fun T => lean P T x) m W = ((lgLoop (tLet P n) (fun T => lean P T x) m (W.1, [])).1, W.2 ++ (lgLoop (tLet P n) (fun T => lean P T x) m (W.1, [])).2)
  | 0, W => by simp [lgLoop]
  | m + 1, W => by
    unfold lgLoop
    dsimp only
    cases e : lean P W.1 x with
    | none => simp
    | some o =>
      dsimp only
      rw [lg_g hf m (tLet P n W o), lg_g hf m (tLet P n (W.1, []) o), hf W o]
      dsimp only
      rw [List.append_assoc]
theorem tLet_g (P : PT) : ∀ (n : Nat) (W : TT × List Nat) (y : Nat), tLet P n W y = ((tLet P n (W.1, []) y).1, W.2 ++ (tLet P n (W.1, []) y).2)
  | 0, W, y => by simp [tLet]
  | n + 1, W, y => by
    unfold tLet
    rw [lg_g (fun W y => tLet_g P n W y) 12 W]
    dsimp only
    rw [List.append_assoc]
/-- those of D are idle -/
def idl (D : List Nat) (T : TT) : TT := u_row (u_st T (fun y => if y ∈ D then 1 else T.1.1.1.1 y)) (T.1.2.1.2.filter (fun y => decide (y ∉ D)))
theorem tRel1_i (x : Nat) (T : TT) (f : Nat → Nat) (r : List Nat) (z : Nat × Nat) : tRel1 x (u_row (u_st T f) r) z = u_row (u_st (tRel1 x T z) f) r := by
  unfold tRel1 tLog
  by_cases h : z.1 = 1
  · simp only [h, if_true]
  · by_cases h2 : z.1 = 0
    · simp only [h2, if_true]; rfl
    · simp only [h, h2, if_false]
theorem tRels_i (x : Nat) (f : Nat → Nat) (r : List Nat) : ∀ (l : List (Nat × Nat)) (T : TT), tRels x l (u_row (u_st T f) r) = u_row (u_st (tRels x l T) f) r
  | [], _ => rfl
  | z :: l, T => by
    show tRels x l (tRel1 x (u_row (u_st T f) r) z) = u_row (u_st (tRels x l (tRel1 x T z)) f) r
    rw [tRel1_i, tRels_i x f r l]
theorem tGone_i {D : List Nat} {T : TT} {x : Nat} (hx : x ∉ D) : tGone (idl D T) x = idl D (tGone T x) := by
  have e1 : tRelease (idl D T) x = u_row (u_st (tRelease T x) (idl D T).1.1.1.1) (idl D T).1.2.1.2 := by
    unfold tRelease
    show u_co (u_tk (tRels x (T.2.2.2.1 x).reverse (idl D T)) _) _ = _
    have e : tRels x (T.2.2.2.1 x).reverse (idl D T) = u_row (u_st (tRels x (T.2.2.2.1 x).reverse T) (idl D T).1.1.1.1) (idl D T).1.2.1.2 := tRels_i x _ _ _ T
    rw [e]
    have e' : tRels x ((idl D T).2.2.2.1 x).reverse (idl D T) = u_row (u_st (tRels x (T.2.2.2.1 x).reverse T) (idl D T).1.1.1.1) (idl D T).1.2.1.2 := e
    rw [e']
  have hst : va_up (idl D T).1.1.1.1 x 2 = fun y => if y ∈ D then 1 else va_up T.1.1.1.1 x 2 y := by
    funext y
    unfold va_up
    by_cases e : y = x
    · subst e
      rw [if_pos rfl, if_pos rfl, if_neg hx]
    · rw [if_neg e, if_neg e]
      rfl
  have hrow : (if x ∈ (idl D T).1.2.1.2 then (idl D T).1.2.1.2 else (idl D T).1.2.1.2 ++ [x]) = (if x ∈ T.1.2.1.2 then T.1.2.1.2 else T.1.2.1.2 ++ [x]).filter (fun y => decide (y ∉ D)) := by
    have hm : x ∈ (idl D T).1.2.1.2 ↔ x ∈ T.1.2.1.2 := by
      show x ∈ T.1.2.1.2.filter (fun y => decide (y ∉ D)) ↔ _
      rw [List.mem_filter]
      exact ⟨fun z => z.1, fun z => ⟨z, decide_eq_true hx⟩⟩
    by_cases e : x ∈ T.1.2.1.2
    · rw [if_pos (hm.mpr e), if_pos e]
      rfl
    · rw [if_neg (fun z => e (hm.mp z)), if_neg e, List.filter_append, List.filter_cons_of_pos (by simpa using hx)]
      rfl
  unfold tGone
  rw [e1, hst, hrow]
  rfl
theorem lg_i {P : PT} {n x : Nat} {D : List Nat} : ∀ (m : Nat) (W : TT × List Nat), (∀ W y, y ∉ D → (∀ z ∈ D, z ∉ W.1.1.2.2.1) → tLet P n (idl D W.1, W.2) y = (idl D (tLet P n W y).1, (tLet P n W y).2) ∧ ∀ z ∈ D, z ∉ (tLet P n W y).1.1.2.2.1) → (∀ z ∈ D, z ∉ W.1.1.2.2.1) → lgLoop (tLet P n) (fun T => lean P T x) m (idl D W.1, W.2) = (idl D (lgLoop (tLet P n) (fun T => lean P T x) m W).1, (lgLoop (tLet P n) (fun T => lean P T x) m W).2) ∧ ∀ z ∈ D, z ∉ (lgLoop (tLet P n) (fun T => lean P T x) m W).1.1.2.2.1
  | 0, W, _, hD => ⟨rfl, hD⟩
  | m + 1, W, hf, hD => by
    unfold lgLoop
    dsimp only
    have e0 : lean P (idl D W.1) x = lean P W.1 x := rfl
    rw [e0]
    cases e : lean P W.1 x with
    | none => exact ⟨rfl, hD⟩
    | some o =>
      dsimp only
      have ho : o ∉ D := fun z => hD o z (lean_s e).1
      obtain ⟨k1, k2⟩ := hf W o ho hD
      rw [k1]
      exact lg_i m (tLet P n W o) hf k2
theorem tLet_i (P : PT) {D : List Nat} : ∀ (n : Nat) (W : TT × List Nat) (y : Nat), y ∉ D → (∀ z ∈ D, z ∉ W.1.1.2.2.1) → tLet P n (idl D W.1, W.2) y = (idl D (tLet P n W y).1, (tLet P n W y).2) ∧ ∀ z ∈ D, z ∉ (tLet P n W y).1.1.2.2.1
  | 0, W, y, _, hD => ⟨rfl, hD⟩
  | n + 1, W, y, hy, hD => by
    obtain ⟨k1, k2⟩ := lg_i (x := y) 12 W (fun W y => tLet_i P n W y) hD
    unfold tLet
    rw [k1]
    dsimp only
    refine ⟨by rw [tGone_i hy], fun z hz => ?_⟩
    rw [(tGone_f _ y).2.2.2.2.1]
    exact fun hh => k2 z hz (List.mem_filter.mp hh).1
theorem idl_nil (T : TT) : idl [] T = T := by
  unfold idl
  have e1 : (fun y => if y ∈ ([] : List Nat) then 1 else T.1.1.1.1 y) = T.1.1.1.1 := by funext y; simp
  have e2 : T.1.2.1.2.filter (fun y => decide (y ∉ ([] : List Nat))) = T.1.2.1.2 := List.filter_eq_self.mpr (fun y _ => by simp)
  rw [e1, e2]
theorem idl_idle (D : List Nat) (T : TT) (x : Nat) : tIdle (idl D T) x = idl (D ++ [x]) T := by
  unfold tIdle idl
  have e1 : va_up (fun y => if y ∈ D then 1 else T.1.1.1.1 y) x 1 = fun y => if y ∈ D ++ [x] then 1 else T.1.1.1.1 y := by
    funext y
    unfold va_up
    by_cases h1 : y = x
    · simp [h1]
    · simp [h1]
  have e2 : (T.1.2.1.2.filter (fun y => decide (y ∉ D))).filter (· ≠ x) = T.1.2.1.2.filter (fun y => decide (y ∉ D ++ [x])) := by
    rw [List.filter_filter]
    refine List.filter_congr (fun y _ => ?_)
    by_cases h1 : y = x
    · simp [h1]
    · by_cases h2 : y ∈ D
      · simp [h2]
      · simp [h1, h2]
  dsimp only
  rw [e1, e2]
theorem idl_cg {D E : List Nat} (T : TT) (h : ∀ y, y ∈ D ↔ y ∈ E) : idl D T = idl E T := by
  unfold idl
  have e1 : (fun y => if y ∈ D then 1 else T.1.1.1.1 y) = fun y => if y ∈ E then 1 else T.1.1.1.1 y := by
    funext y
    by_cases h1 : y ∈ D
    · rw [if_pos h1, if_pos ((h y).mp h1)]
    · rw [if_neg h1, if_neg (fun z => h1 ((h y).mpr z))]
  have e2 : T.1.2.1.2.filter (fun y => decide (y ∉ D)) = T.1.2.1.2.filter (fun y => decide (y ∉ E)) := List.filter_congr (fun y _ => by
    rw [decide_eq_decide]
    exact not_congr (h y))
  rw [e1, e2]
/-- the same without making them idle; which were chosen -/
def tWm (P : PT) (v : Nat) : Nat → TT × List Nat → TT × List Nat
  | 0, W => W
  | n + 1, W => match latB W.1 v with
    | none => W
    | some x => tWm P v n (tLet P 13 W x)
def tWc (P : PT) (v : Nat) : Nat → TT × List Nat → List Nat
  | 0, _ => []
  | n + 1, W => match latB W.1 v with
    | none => []
    | some x => x :: tWc P v n (tLet P 13 W x)
theorem tWd_m {P : PT} {v : Nat} : ∀ (n : Nat) (W : TT × List Nat) (D : List Nat), (∀ z ∈ D, z ∉ W.1.1.2.2.1) → (∀ (W : TT × List Nat) (x : Nat), IV P W.1 → latB W.1 v = some x → x ∉ (tLet P 13 W x).1.1.2.2.1 ∧ IV P (tLet P 13 W x).1) → IV P W.1 → tWd P v n (idl D W.1, W.2) = (idl (D ++ tWc P v n W) (tWm P v n W).1, (tWm P v n W).2)
  | 0, W, D, _, _, _ => by simp [tWd, tWc, tWm]
  | n + 1, W, D, hD, hf, hI => by
    unfold tWd tWc tWm
    dsimp only
    have e0 : latB (idl D W.1) v = latB W.1 v := rfl
    rw [e0]
    cases e : latB W.1 v with
    | none => simp
    | some x =>
      dsimp only
      have hx : x ∉ D := fun z => hD x z (latB_s e).1
      obtain ⟨k1, k2⟩ := tLet_i P 13 W x hx hD
      obtain ⟨q1, q2⟩ := hf W x hI e
      rw [k1]
      dsimp only
      rw [idl_idle, tWd_m n (tLet P 13 W x) (D ++ [x]) (fun z hz => by
        rcases List.mem_append.mp hz with hz | hz
        · exact k2 z hz
        · rw [List.mem_singleton.mp hz]; exact q1) hf q2, List.append_assoc]
      rfl
/-- those bound to v -/
def its (T : TT) (v : Nat) : List Nat := T.1.2.2.1.filter (fun x => decide (T.1.1.1.2 x = v))
theorem latB_its {P : PT} {W : TT × List Nat} {v x : Nat} (hV : PV P) (h : IV P W.1) (e : latB W.1 v = some x) : (∀ y, y ∈ its W.1 v ↔ y = x ∨ y ∈ its (tLet P 13 W x).1 v) ∧ x ∉ (tLet P 13 W x).1.1.2.2.1 ∧ IV P (tLet P 13 W x).1 ∧ (its (tLet P 13 W x).1 v).length < (its W.1 v).length := by
  obtain ⟨hxb, hxv⟩ := latB_s e
  have hx := (h.1.1.2.2.1.2 x).mp hxb
  -- x and what stands behind it
  unfold latB at e
  obtain ⟨-, as, bs, hl, hn⟩ := List.find?_eq_some_iff_append.mp e
  have hb : W.1.1.2.2.1 = bs.reverse ++ x :: as.reverse := by
    have := congrArg List.reverse hl
    rw [List.reverse_reverse] at this
    rw [this]
    simp
  have hn13 : as.reverse.length < 13 := by
    have := bnd_12 hV h.1.1
    rw [hb] at this
    simp at this ⊢
    omega
  obtain ⟨k0, k1, k2, ⟨B', k3, k4, G, k5, k6, k7⟩, k8, k9, k10, k11, k12, k13, k14⟩ := tLet_v hV h hb hn13
  have hno : ∀ y ∈ as.reverse, ¬ W.1.1.1.1.2 y = v := fun y hy => by
    have := hn y (List.mem_reverse.mp hy)
    simpa using this
  have hnb : x ∉ (tLet P 13 W x).1.1.2.2.1 := fun z => by
    have := ((k0.1.1.2.2.1.2 x).mp z).2
    rw [k13] at this
    cases this
  have e1 : its W.1 v = bs.reverse.filter (fun y => decide (W.1.1.1.1.2 y = v)) ++ [x] := by
    unfold its
    have h0 : as.reverse.filter (fun y => decide (W.1.1.1.1.2 y = v)) = [] := List.filter_eq_nil_iff.mpr (fun y hy => by simpa using hno y hy)
    rw [hb, List.filter_append, List.filter_cons_of_pos (by simpa using hxv), h0]
  have e2 : its (tLet P 13 W x).1 v = bs.reverse.filter (fun y => decide (W.1.1.1.1.2 y = v)) := by
    unfold its
    have h0 : B'.filter (fun y => decide (W.1.1.1.1.2 y = v)) = [] := List.filter_eq_nil_iff.mpr (fun y hy => by simpa using hno y (k3.mem hy))
    rw [k4, k10, List.filter_append, h0, List.append_nil]
  refine ⟨fun y => ?_, hnb, k0, ?_⟩
  · rw [e1, e2, List.mem_append, List.mem_singleton]
    exact Or.comm
  · rw [e1, e2]
    simp
theorem latB_none {T : TT} {v : Nat} (e : latB T v = none) : its T v = [] := by
  unfold latB at e
  unfold its
  rw [List.find?_eq_none] at e
  exact List.filter_eq_nil_iff.mpr (fun y hy => by simpa using e y (List.mem_reverse.mpr hy))
theorem tWc_its {P : PT} {v : Nat} (hV : PV P) : ∀ (n : Nat) (W : TT × List Nat), IV P W.1 → (its W.1 v).length ≤ n → (∀ y, y ∈ tWc P v n W ↔ y ∈ its W.1 v) ∧ latB (tWm P v n W).1 v = none ∧ IV P (tWm P v n W).1 ∧ (∀ y ∈ tWc P v n W, (tWm P v n W).1.1.1.1.1 y ≠ 3)
  | 0, W, h, hn => by
    have e : its W.1 v = [] := List.length_eq_zero_iff.mp (by omega)
    refine ⟨fun y => by rw [e]; exact Iff.rfl, ?_, h, fun y hy => by cases hy⟩
    show latB W.1 v = none
    unfold latB
    rw [List.find?_eq_none]
    intro y hy hh
    have : y ∈ its W.1 v := List.mem_filter.mpr ⟨List.mem_reverse.mp hy, hh⟩
    rw [e] at this
    cases this
  | n + 1, W, h, hn => by
    unfold tWc tWm
    cases e : latB W.1 v with
    | none => exact ⟨fun y => by rw [latB_none e], e, h, fun y hy => by cases hy⟩
    | some x =>
      dsimp only
      obtain ⟨k1, k2, k3, k4⟩ := latB_its hV h e
      obtain ⟨q1, q2, q3, q4⟩ := tWc_its (v := v) hV n (tLet P 13 W x) k3 (by omega)
      refine ⟨fun y => by rw [List.mem_cons, k1 y, q1 y], q2, q3, fun y hy => ?_⟩
      rcases List.mem_cons.mp hy with hy | hy
      · -- x stays unbound
        rw [hy]
        have hmon : ∀ (n : Nat) (W : TT × List Nat), IV P W.1 → ∀ y, W.1.1.1.1.1 y ≠ 3 → (tWm P v n W).1.1.1.1.1 y ≠ 3 := by
          intro n
          induction n with
          | zero => intro W _ y hy; exact hy
          | succ n ih =>
            intro W hW y hy
            unfold tWm
            cases e : latB W.1 v with
            | none => exact hy
            | some x' =>
              dsimp only
              have hx' := (hW.1.1.2.2.1.2 x').mp (latB_s e).1
              obtain ⟨A, B, hb, hn'⟩ := bnd_at hV hW.1.1 hx'.1 hx'.2
              obtain ⟨p0, p1, p2, p3, p8, p9, p10, p11, p12, -⟩ := tLet_v hV hW hb hn'
              exact ih _ p0 y (fun z => hy (p12 y z))
        refine hmon n _ k3 x (fun z => k2 ?_)
        have hxb := (h.1.1.2.2.1.2 x).mp (latB_s e).1
        exact (k3.1.1.2.2.1.2 x).mpr ⟨hxb.1, z⟩
      · exact q4 y hy
/-- unloading: at the end those that were bound to it are idle -/
theorem tUnl_m {P : PT} {T : TT} {v : Nat} (hV : PV P) (h : IV P T) : tWd P v 12 (T, []) = (idl (its T v) (tWm P v 12 (T, [])).1, (tWm P v 12 (T, [])).2) ∧ latB (tWm P v 12 (T, [])).1 v = none ∧ IV P (tWm P v 12 (T, [])).1 ∧ ∀ y ∈ its T v, (tWm P v 12 (T, [])).1.1.1.1.1 y ≠ 3 := by
  have hl : (its T v).length ≤ 12 := Nat.le_trans (List.length_filter_le _ _) (bnd_12 hV h.1.1)
  obtain ⟨k1, k2, k3, k4⟩ := tWc_its (v := v) hV 12 (T, []) h hl
  have := tWd_m (v := v) 12 (T, []) [] (fun z hz => by cases hz) (fun W x hW e => ⟨(latB_its hV hW e).2.1, (latB_its hV hW e).2.2.1⟩) h
  rw [idl_nil, List.nil_append] at this
  refine ⟨?_, k2, k3, fun y hy => k4 y ((k1 y).mpr hy)⟩
  rw [this, idl_cg _ k1]
