-- THE RELATION of the abstract machine's cells to the heap: cell k of the world lies at bs + k; what was there before (1000 on) lies at ra
section
variable (bs : Nat) (ra : Nat → Nat) (cA : Nat → ClassId)
def trN (k : Nat) : Nat := if k < 1000 then bs + k else ra k
def trV (v : Value) : Value := match v with
  | .ref k => .ref (trN bs ra k)
  | w => w
def fv (c : Nat) (s : Sg) (k j : Nat) : Value := match fk c j with
  | 1 => .long (s.2.2.2.2 k j)
  | 2 => trV bs ra (zr (s.2.1 k j))
  | 3 => trV bs ra (zr (s.2.2.1 k j))
  | _ => .int (s.2.2.2.1 k j)
def cel (s : Sg) (k : Nat) : va_E := match zC k with
  | 20 => .inl (cA 20, zN k, .inl (s.2.2.2.1 k))
  | 21 => .inl (cA 21, zN k, .inr (.inl (s.2.2.2.2 k)))
  | 22 => .inl (cA 22, zN k, .inl (s.2.2.2.1 k))
  | 23 => .inl (cA 23, zN k, .inr (.inr (.inr (.inr fun j => (s.2.1 k j).map (trN bs ra)))))
  | 24 => .inl (cA 24, zN k, .inr (.inr (.inr (.inr fun j => (s.2.1 k j).map (trN bs ra)))))
  | 25 => .inl (cA 25, zN k, .inr (.inr (.inr (.inr fun j => (s.2.2.1 k j).map (trN bs ra)))))
  | c => .inr (c, (List.range (zN k)).map (fv bs ra c s k))
def wsO (s : Sg) : va_W := (List.range s.1.1).map fun k => (bs + k, cel bs ra cA s k)
end
abbrev zA (bs : Nat) : Nat → Prop := fun q => bs ≤ q
def tyz (cA : Nat → ClassId) : List (ClassId × FieldType) := [(cA 20, .int), (cA 21, .long), (cA 22, .byte), (cA 23, .array .int), (cA 24, .object "LateBinder$Bench"), (cA 25, .object "LateBinder$Key")]
theorem wsO_get {bs : Nat} {ra : Nat → Nat} {cA : Nat → ClassId} {s : Sg} {k : Nat} (h : k < s.1.1) : (wsO bs ra cA s)[k]? = some (bs + k, cel bs ra cA s k) := by
  unfold wsO
  rw [List.getElem?_map, List.getElem?_range h]
  rfl
theorem wsO_lt {bs : Nat} {ra : Nat → Nat} {cA : Nat → ClassId} {s : Sg} {k : Nat} {q : Nat × va_E} (h : (wsO bs ra cA s)[k]? = some q) : k < s.1.1 ∧ q = (bs + k, cel bs ra cA s k) := by
  have h1 : k < s.1.1 := by
    have h2 := (List.getElem?_eq_some_iff.mp h).1
    simpa [wsO] using h2
  rw [wsO_get h1] at h
  exact ⟨h1, (Option.some.inj h).symm⟩
theorem wsO_D {bs : Nat} {ra : Nat → Nat} {cA : Nat → ClassId} {s : Sg} : va_D (zA bs) (wsO bs ra cA s) := by
  refine ⟨fun i j p q hi hj he => ?_, fun k q hk => ?_⟩
  · obtain ⟨-, rfl⟩ := wsO_lt hi
    obtain ⟨-, rfl⟩ := wsO_lt hj
    have he : bs + i = bs + j := he
    omega
  · obtain ⟨-, rfl⟩ := wsO_lt hk
    exact Nat.le_add_right _ _
theorem wsO_set {bs : Nat} {ra : Nat → Nat} {cA : Nat → ClassId} {s t : Sg} {k : Nat} (hn : t.1.1 = s.1.1) (ho : ∀ j, j ≠ k → cel bs ra cA t j = cel bs ra cA s j) : (wsO bs ra cA s).set k (bs + k, cel bs ra cA t k) = wsO bs ra cA t := by
  apply List.ext_getElem?
  intro i
  rw [List.getElem?_set]
  by_cases hi : i < s.1.1
  · rw [wsO_get (s := t) (by rw [hn]; exact hi)]
    by_cases e : k = i
    · subst e
      simp [wsO, hi]
    · rw [if_neg e, wsO_get hi, ho i (fun z => e z.symm)]
  · have h1 : (wsO bs ra cA s)[i]? = none := by simp [wsO]; omega
    have h2 : (wsO bs ra cA t)[i]? = none := by simp [wsO]; omega
    have hl : (wsO bs ra cA s).length = s.1.1 := by simp [wsO]
    rw [h2]
    by_cases e : k = i
    · subst e
      simp [hl, hi]
    · rw [if_neg e, h1]
theorem fs_set {N j : Nat} {f g : Nat → Value} {v : Value} (ho : ∀ i, i ≠ j → g i = f i) (hj : g j = v) : (List.range N).map g = ((List.range N).map f).set j v := by
  apply List.ext_getElem?
  intro i
  rw [List.getElem?_set]
  by_cases hi : i < N
  · by_cases e : j = i
    · subst e
      simp [hi, hj]
    · simp [e, hi, ho i (fun z => e z.symm)]
  · by_cases e : j = i
    · subst e
      simp [hi]
    · simp [e, hi]
theorem fs_get {N j : Nat} {f : Nat → Value} (hj : j < N) : ((List.range N).map f)[j]? = some (f j) := by simp [hj]
theorem cel_obj {bs : Nat} {ra : Nat → Nat} {cA : Nat → ClassId} {s : Sg} {k c : Nat} (h : zC k = c) (hc : c < 20) : cel bs ra cA s k = .inr (c, (List.range (zN k)).map (fv bs ra c s k)) := by
  unfold cel
  rw [h]
  split <;> first | omega | rfl
/-- nothing of cell j has changed -/
def sam (s t : Sg) (j : Nat) : Prop := t.2.1 j = s.2.1 j ∧ t.2.2.1 j = s.2.2.1 j ∧ t.2.2.2.1 j = s.2.2.2.1 j ∧ t.2.2.2.2 j = s.2.2.2.2 j
theorem sam_cel {bs : Nat} {ra : Nat → Nat} {cA : Nat → ClassId} {s t : Sg} {j : Nat} (h : sam s t j) : cel bs ra cA t j = cel bs ra cA s j := by
  obtain ⟨h1, h2, h3, h4⟩ := h
  have hf : ∀ c, fv bs ra c t j = fv bs ra c s j := fun c => by
    funext i
    unfold fv
    rw [h1, h2, h3, h4]
  unfold cel
  rw [h1, h2, h3, h4]
  simp only [hf]
theorem z2_ne {α : Type} {f : Nat → Nat → α} {k j : Nat} {v : α} {a : Nat} (h : a ≠ k) : z2 f k j v a = f a := by
  unfold z2 va_up
  rw [if_neg h]
theorem z2_eq {α : Type} {f : Nat → Nat → α} {k j : Nat} {v : α} : z2 f k j v k = va_up (f k) j v := by
  unfold z2 va_up
  rw [if_pos rfl]
