-- PROBES: what is wrong
noncomputable def tGets (P : PT) (T : TT) (x z : Nat) : (Nat × Int32) × TT := match T.2.1.2.1 z with
  | none => ((2, nI z), T)
  | some g => if g = x then ((0, -1), T) else if bt (abv P T g) x then ((3, nI g), T) else ((0, -1), u_co T (va_up T.2.1.1.1 x (T.2.1.1.1 x ||| (nI 1 <<< (nI g &&& 31)))))
noncomputable def tDo (P : PT) (T : TT) (x : Nat) (z : Nat × Nat) : (Nat × Int32) × TT :=
  if z.1 = 0 then (if nI z.2 ≤ T.2.2.1.1 then ((0, -1), tTake (u_pool T (T.2.2.1.1 - nI z.2)) x z) else ((5, -1), T))
  else if z.1 = 1 then (match T.2.1.1.2 z.2 with
    | none => ((0, -1), tTake (u_ln T (va_up T.2.1.1.2 z.2 (some x))) x z)
    | some y => ((4, nI y), T))
  else if z.1 = 2 then tGets P T x z.2
  else if z.1 = 3 then (match T.2.1.2.1 z.2 with
    | none => ((0, -1), tTake (u_gv T (va_up T.2.1.2.1 z.2 (some x))) x z)
    | some y => ((6, nI y), T))
  else ((7, -1), T)
noncomputable def tNeeds (P : PT) (x : Nat) : List Nat → TT → (Nat × Int32) × TT
  | [], T => ((0, -1), T)
  | z :: l, T => if (tGets P T x z).1.1 = 0 then tNeeds P x l (tGets P T x z).2 else tGets P T x z
noncomputable def tSteps (P : PT) (x : Nat) : List (Nat × Nat) → TT → (Nat × Int32) × TT
  | [], T => ((0, -1), T)
  | z :: l, T => if (tDo P T x z).1.1 = 0 then tSteps P x l (tDo P T x z).2 else tDo P T x z
/-- the parent isn't bound -/
def pNo (P : PT) (T : TT) (x : Nat) : Option Nat := match P.2.1 x with
  | none => none
  | some y => if T.1.1.1.1 y = 3 then none else some y
noncomputable def tWrong (P : PT) (T : TT) (x v : Nat) : (Nat × Int32) × TT := match pNo P T x with
  | some y => ((1, nI y), T)
  | none => if (tNeeds P x (P.2.2.1 x) T).1.1 = 0 then tSteps P x (P.2.2.2.1 v) (tNeeds P x (P.2.2.1 x) T).2 else tNeeds P x (P.2.2.1 x) T
/-- what a probe on its way leaves as it is -/
def PF (T U : TT) : Prop := U.1.1.1.1 = T.1.1.1.1 ∧ U.1.1.1.2 = T.1.1.1.2 ∧ U.1.1.2.1 = T.1.1.2.1 ∧ U.1.1.2.2 = T.1.1.2.2 ∧ U.1.2.1.1 = T.1.2.1.1 ∧ U.1.2.1.2 = T.1.2.1.2 ∧ U.1.2.2.1 = T.1.2.2.1 ∧ U.1.2.2.2 = T.1.2.2.2 ∧ U.2.1.2.2 = T.2.1.2.2 ∧ U.2.2.1.2 = T.2.2.1.2 ∧ U.2.2.2.2 = T.2.2.2.2
theorem PF.rf {T : TT} : PF T T := ⟨rfl, rfl, rfl, rfl, rfl, rfl, rfl, rfl, rfl, rfl, rfl⟩
theorem PF.tr {T U W : TT} (h : PF T U) (g : PF U W) : PF T W := by
  obtain ⟨a1, a2, a3, a4, a5, a6, a7, a8, a9, a10, a11⟩ := h
  obtain ⟨b1, b2, b3, b4, b5, b6, b7, b8, b9, b10, b11⟩ := g
  exact ⟨b1.trans a1, b2.trans a2, b3.trans a3, b4.trans a4, b5.trans a5, b6.trans a6, b7.trans a7, b8.trans a8, b9.trans a9, b10.trans a10, b11.trans a11⟩
/-- what a get may answer -/
def okw (r : Nat × Int32) : Prop := r.1 ≤ 7 ∧ (r.1 = 0 ∨ r.1 = 5 ∨ r.1 = 7 → r.2 = -1)
theorem TV_co {P : PT} {T : TT} (h : TV P T) {x : Nat} {v : Int32} (hv : ∀ j, bt v j = true → j < 12) : TV P (u_co T (va_up T.2.1.1.1 x v)) := by
  obtain ⟨h1, h2, h3, h4, h5, h6, h7, h8, h9⟩ := h
  refine ⟨h1, h2, h3, h4, h5, h6, fun y j hj => ?_, h8, h9⟩
  have hj : bt (va_up T.2.1.1.1 x v y) j = true := hj
  unfold va_up at hj
  split at hj
  · exact hv j hj
  · exact h7 y j hj
theorem tGets_f {P : PT} {T : TT} {x z : Nat} (hV : PV P) (h : TV P T) (hz : z < 8) : PF T (tGets P T x z).2 ∧ TV P (tGets P T x z).2 ∧ okw (tGets P T x z).1 ∧ (tGets P T x z).2.2.2.2.1 = T.2.2.2.1 := by
  unfold tGets
  cases e : T.2.1.2.1 z with
  | none => exact ⟨PF.rf, h, ⟨Nat.le_of_ble_eq_true rfl, fun z => by rcases z with z | z | z <;> cases z⟩, rfl⟩
  | some g =>
    have hg := h.2.2.2.1 z g e
    have := hV.1
    dsimp only
    split
    · exact ⟨PF.rf, h, ⟨Nat.le_of_ble_eq_true rfl, fun _ => rfl⟩, rfl⟩
    · split
      · exact ⟨PF.rf, h, ⟨Nat.le_of_ble_eq_true rfl, fun z => by rcases z with z | z | z <;> cases z⟩, rfl⟩
      · refine ⟨⟨rfl, rfl, rfl, rfl, rfl, rfl, rfl, rfl, rfl, rfl, rfl⟩, TV_co h (fun j hj => ?_), ⟨Nat.le_of_ble_eq_true rfl, fun _ => rfl⟩, rfl⟩
        rw [b_or, Bool.or_eq_true, b_bit (by omega), decide_eq_true_eq] at hj
        rcases hj with hj | hj
        · exact h.2.2.2.2.2.2.1 x j hj
        · omega
theorem TV_tk {P : PT} {T : TT} (h : TV P T) {x : Nat} {l : List (Nat × Nat)} (hl : l.length ≤ 6) (hz : ∀ z ∈ l, okz z) : TV P (u_tk T (va_up T.2.2.2.1 x l)) := by
  obtain ⟨h1, h2, h3, h4, h5, h6, h7, h8, h9⟩ := h
  refine ⟨h1, h2, h3, h4, h5, h6, h7, fun y z hy => ?_, fun y => ?_⟩
  · have hy : z ∈ va_up T.2.2.2.1 x l y := hy
    unfold va_up at hy
    split at hy
    · exact hz z hy
    · exact h8 y z hy
  · show (va_up T.2.2.2.1 x l y).length ≤ 6
    unfold va_up
    split
    · exact hl
    · exact h9 y
theorem TV_take {P : PT} {T : TT} (h : TV P T) {x : Nat} {z : Nat × Nat} (hl : (T.2.2.2.1 x).length < 6) (hz : okz z) : TV P (tTake T x z) := TV_tk h (by simp; omega) (fun w hw => by
  rcases List.mem_append.mp hw with hw | hw
  · exact h.2.2.2.2.2.2.2.1 x w hw
  · rw [List.mem_singleton.mp hw]; exact hz)
theorem TV_gv {P : PT} {T : TT} (h : TV P T) {j : Nat} {o : Option Nat} (ho : ∀ y, o = some y → y < P.1.1) : TV P (u_gv T (va_up T.2.1.2.1 j o)) := by
  obtain ⟨h1, h2, h3, h4, h5, h6, h7, h8, h9⟩ := h
  refine ⟨h1, h2, h3, fun k y hy => ?_, h5, h6, h7, h8, h9⟩
  have hy : va_up T.2.1.2.1 j o k = some y := hy
  unfold va_up at hy
  split at hy
  · exact ho y hy
  · exact h4 k y hy
theorem TV_ln {P : PT} {T : TT} (h : TV P T) {j : Nat} {o : Option Nat} (ho : ∀ y, o = some y → y < P.1.1) : TV P (u_ln T (va_up T.2.1.1.2 j o)) := by
  obtain ⟨h1, h2, h3, h4, h5, h6, h7, h8, h9⟩ := h
  refine ⟨h1, h2, h3, h4, fun k y hy => ?_, h6, h7, h8, h9⟩
  have hy : va_up T.2.1.1.2 j o k = some y := hy
  unfold va_up at hy
  split at hy
  · exact ho y hy
  · exact h5 k y hy
/-- a step as the text may tell it -/
def oks (z : Nat × Nat) : Prop := z.1 ≤ 4 ∧ (z.1 = 1 → z.2 < 16) ∧ (z.1 = 2 → z.2 < 8) ∧ (z.1 = 3 → z.2 < 8) ∧ z.2 ≤ 99
/-- it is noted what was taken -/
def isT (z : Nat × Nat) : Bool := decide (z.1 = 0 ∨ z.1 = 1 ∨ z.1 = 3)
theorem tDo_f {P : PT} {T : TT} {x : Nat} {z : Nat × Nat} (hV : PV P) (h : TV P T) (hx : x < P.1.1) (hz : oks z) (hl : (T.2.2.2.1 x).length < 6) : PF T (tDo P T x z).2 ∧ TV P (tDo P T x z).2 ∧ okw (tDo P T x z).1 ∧ (tDo P T x z).2.2.2.2.1 = va_up T.2.2.2.1 x (if (tDo P T x z).1.1 = 0 ∧ isT z = true then T.2.2.2.1 x ++ [z] else T.2.2.2.1 x) := by
  have hpf : PF T T := PF.rf
  have hid : ∀ a : TT, va_up a.2.2.2.1 x (a.2.2.2.1 x) = a.2.2.2.1 := fun a => by
    funext y
    unfold va_up
    split
    · subst y; rfl
    · rfl
  obtain ⟨z1, z2, z3, z4, z5⟩ := hz
  unfold tDo
  by_cases k0 : z.1 = 0
  · rw [if_pos k0]
    split
    · refine ⟨⟨rfl, rfl, rfl, rfl, rfl, rfl, rfl, rfl, rfl, rfl, rfl⟩, TV_take (T := u_pool T _) ⟨h.1, h.2.1, h.2.2.1, h.2.2.2.1, h.2.2.2.2.1, h.2.2.2.2.2.1, h.2.2.2.2.2.2.1, h.2.2.2.2.2.2.2.1, h.2.2.2.2.2.2.2.2⟩ hl (Or.inl k0), ⟨Nat.le_of_ble_eq_true rfl, fun _ => rfl⟩, ?_⟩
      rw [if_pos ⟨rfl, by simp [isT, k0]⟩]
      rfl
    · refine ⟨PF.rf, h, ⟨Nat.le_of_ble_eq_true rfl, fun _ => rfl⟩, ?_⟩
      rw [if_neg (by simp), hid]
  · rw [if_neg k0]
    by_cases k1 : z.1 = 1
    · rw [if_pos k1]
      cases e : T.2.1.1.2 z.2 with
      | none =>
        refine ⟨⟨rfl, rfl, rfl, rfl, rfl, rfl, rfl, rfl, rfl, rfl, rfl⟩, TV_take (T := u_ln T _) (TV_ln h (fun y hy => by cases hy; exact hx)) hl (Or.inr (Or.inl ⟨k1, z2 k1⟩)), ⟨Nat.le_of_ble_eq_true rfl, fun _ => rfl⟩, ?_⟩
        rw [if_pos ⟨rfl, by simp [isT, k1]⟩]
        rfl
      | some y =>
        refine ⟨PF.rf, h, ⟨Nat.le_of_ble_eq_true rfl, fun z => by rcases z with z | z | z <;> cases z⟩, ?_⟩
        rw [if_neg (by simp), hid]
    · rw [if_neg k1]
      by_cases k2 : z.1 = 2
      · rw [if_pos k2]
        obtain ⟨g1, g2, g3, g4⟩ := tGets_f (x := x) hV h (z3 k2)
        refine ⟨g1, g2, g3, ?_⟩
        rw [if_neg (by simp [isT, k2]), hid, g4]
      · rw [if_neg k2]
        by_cases k3 : z.1 = 3
        · rw [if_pos k3]
          cases e : T.2.1.2.1 z.2 with
          | none =>
            refine ⟨⟨rfl, rfl, rfl, rfl, rfl, rfl, rfl, rfl, rfl, rfl, rfl⟩, TV_take (T := u_gv T _) (TV_gv h (fun y hy => by cases hy; exact hx)) hl (Or.inr (Or.inr ⟨k3, z4 k3⟩)), ⟨Nat.le_of_ble_eq_true rfl, fun _ => rfl⟩, ?_⟩
            rw [if_pos ⟨rfl, by simp [isT, k3]⟩]
            rfl
          | some y =>
            refine ⟨PF.rf, h, ⟨Nat.le_of_ble_eq_true rfl, fun z => by rcases z with z | z | z <;> cases z⟩, ?_⟩
            rw [if_neg (by simp), hid]
        · rw [if_neg k3]
          refine ⟨PF.rf, h, ⟨Nat.le_of_ble_eq_true rfl, fun _ => rfl⟩, ?_⟩
          rw [if_neg (by simp), hid]
