-- LOCALS
def isL (v : Value) : Bool := match v with
  | .int _ => true
  | .long _ => true
  | .ref _ => true
  | _ => false
section
variable (bs : Nat) (ra : Nat → Nat)
def zlv : Nat → List Value → List (Nat × Value)
  | _, [] => []
  | i, v :: r => bif isL v then (i, trV bs ra v) :: zlv (i + 1) r else zlv (i + 1) r
def lcO (nL : Nat) (xs : List Value) (ls : Array Slot) : Prop := xs.length = nL ∧ lv_has ls nL (zlv bs ra 0 xs)
end
theorem trV_cat {bs : Nat} {ra : Nat → Nat} {v : Value} : (trV bs ra v).category = v.category := by cases v <;> rfl
theorem zlv_mem {bs : Nat} {ra : Nat → Nat} : ∀ {xs : List Value} {i j : Nat} {w : Value}, (j, w) ∈ zlv bs ra i xs ↔ ∃ k v, xs[k]? = some v ∧ j = i + k ∧ isL v = true ∧ w = trV bs ra v
  | [], i, j, w => by simp [zlv]
  | v :: r, i, j, w => by
    have ih := @zlv_mem bs ra r (i + 1) j w
    constructor
    · intro h
      unfold zlv at h
      cases hv : isL v with
      | true =>
        rw [hv, cond_true] at h
        rcases List.mem_cons.mp h with h | h
        · cases h
          exact ⟨0, v, rfl, rfl, hv, rfl⟩
        · obtain ⟨k, u, h1, h2, h3, h4⟩ := ih.mp h
          exact ⟨k + 1, u, by simpa using h1, by omega, h3, h4⟩
      | false =>
        rw [hv, cond_false] at h
        obtain ⟨k, u, h1, h2, h3, h4⟩ := ih.mp h
        exact ⟨k + 1, u, by simpa using h1, by omega, h3, h4⟩
    · rintro ⟨k, u, h1, h2, h3, h4⟩
      unfold zlv
      cases k with
      | zero =>
        have e : v = u := by simpa using h1
        subst e
        rw [h3, cond_true]
        subst h4
        have e2 : j = i := by omega
        subst e2
        exact List.mem_cons_self
      | succ k =>
        have h5 : (j, w) ∈ zlv bs ra (i + 1) r := ih.mpr ⟨k, u, by simpa using h1, by omega, h3, h4⟩
        cases hv : isL v with
        | true => rw [cond_true]; exact List.mem_cons_of_mem _ h5
        | false => rw [cond_false]; exact h5
theorem lcO.get {bs : Nat} {ra : Nat → Nat} {nL : Nat} {xs : List Value} {ls : Array Slot} (h : lcO bs ra nL xs ls) {j : Nat} {v : Value} (hv : xs[j]? = some v) (hl : isL v = true) : ls[j]? = some (.val (trV bs ra v)) :=
  h.2.2.2 (j, trV bs ra v) (zlv_mem.mpr ⟨j, v, hv, by omega, hl, rfl⟩)
theorem lcO.of {bs : Nat} {ra : Nat → Nat} {nL : Nat} {ys : List Value} {ls : Array Slot} {l : List (Nat × Value)} (h : lv_has ls nL l) (hn : ys.length = nL) (hs : ∀ j v, ys[j]? = some v → isL v = true → (j, trV bs ra v) ∈ l) : lcO bs ra nL ys ls := by
  refine ⟨hn, h.1, h.2.1, fun q hq => ?_⟩
  obtain ⟨j, w⟩ := q
  obtain ⟨k, v, h1, h2, h3, h4⟩ := zlv_mem.mp hq
  have e : j = k := by omega
  subst e
  subst h4
  exact h.2.2 _ (hs j v h1 h3)
theorem zbef_len (xs : List Value) (j : Nat) : (zbef xs j).length = xs.length := by
  unfold zbef
  cases j with
  | zero => rfl
  | succ i =>
    dsimp only
    split
    · simp
    · rfl
/-- what stands behind zbef: it stood, and isn't a long right before -/
theorem zbef_get {xs : List Value} {j i : Nat} {v : Value} (h : (zbef xs j)[i]? = some v) (hl : isL v = true) : xs[i]? = some v ∧ ¬ (i + 1 = j ∧ v.category = 2) := by
  unfold zbef at h
  cases j with
  | zero => exact ⟨h, by omega⟩
  | succ k =>
    dsimp only at h
    split at h
    · rename_i x hx
      rw [List.getElem?_set] at h
      by_cases e : k = i
      · subst e
        rw [if_pos rfl] at h
        split at h
        · cases h
          cases hl
        · cases h
      · rw [if_neg e] at h
        exact ⟨h, by omega⟩
    · rename_i hx
      refine ⟨h, fun ⟨e, hc⟩ => ?_⟩
      have e : i = k := by omega
      subst e
      cases v <;> first | exact hx _ h | exact absurd (show (1 : Nat) = 2 from hc) (by decide) | exact absurd (show false = true from hl) (by decide)
theorem lcO.st1 {bs : Nat} {ra : Nat → Nat} {nL : Nat} {xs : List Value} {ls' : Array Slot} {j : Nat} {v : Value} (hj : j < nL) (hn : xs.length = nL) (h : lv_has ls' nL ((j, trV bs ra v) :: (zlv bs ra 0 xs).filter (fun q => !(q.1 == j) && !(q.1 + 1 == j && q.2.category == 2)))) : lcO bs ra nL ((zbef xs j).set j v) ls' := by
  refine lcO.of h (by rw [List.length_set, zbef_len]; exact hn) (fun i w hw hl => ?_)
  rw [List.getElem?_set] at hw
  by_cases e : j = i
  · subst e
    rw [if_pos rfl, if_pos (by rw [zbef_len, hn]; exact hj)] at hw
    cases hw
    exact List.mem_cons_self
  · rw [if_neg e] at hw
    obtain ⟨h1, h2⟩ := zbef_get hw hl
    refine List.mem_cons_of_mem _ (List.mem_filter.mpr ⟨zlv_mem.mpr ⟨i, w, h1, by omega, hl, rfl⟩, ?_⟩)
    have e2 : ¬ i = j := fun z => e z.symm
    simp only [trV_cat]
    by_cases e3 : i + 1 = j
    · have e4 : ¬ w.category = 2 := fun z => h2 ⟨e3, z⟩
      simp [e2, e4]
    · simp [e2, e3]
theorem lcO.st2 {bs : Nat} {ra : Nat → Nat} {nL : Nat} {xs : List Value} {ls' : Array Slot} {j : Nat} {v : Value} (hj : j + 1 < nL) (hn : xs.length = nL) (h : lv_has ls' nL ((j, trV bs ra v) :: (zlv bs ra 0 xs).filter (fun q => !(q.1 == j) && (!(q.1 == j + 1) && !(q.1 + 1 == j && q.2.category == 2))))) : lcO bs ra nL (((zbef xs j).set j v).set (j + 1) zU) ls' := by
  refine lcO.of h (by rw [List.length_set, List.length_set, zbef_len]; exact hn) (fun i w hw hl => ?_)
  rw [List.getElem?_set] at hw
  by_cases e0 : j + 1 = i
  · subst e0
    rw [if_pos rfl] at hw
    split at hw
    · cases hw
      cases hl
    · cases hw
  rw [if_neg e0, List.getElem?_set] at hw
  by_cases e : j = i
  · subst e
    rw [if_pos rfl, if_pos (by rw [zbef_len, hn]; omega)] at hw
    cases hw
    exact List.mem_cons_self
  · rw [if_neg e] at hw
    obtain ⟨h1, h2⟩ := zbef_get hw hl
    refine List.mem_cons_of_mem _ (List.mem_filter.mpr ⟨zlv_mem.mpr ⟨i, w, h1, by omega, hl, rfl⟩, ?_⟩)
    have e2 : ¬ i = j := fun z => e z.symm
    have e5 : ¬ i = j + 1 := fun z => e0 z.symm
    simp only [trV_cat]
    by_cases e3 : i + 1 = j
    · have e4 : ¬ w.category = 2 := fun z => h2 ⟨e3, z⟩
      simp [e2, e4, e5]
    · simp [e2, e3, e5]
theorem kil_len : ∀ (ks : List Nat) (xs : List Value), (kil ks xs).length = xs.length
  | [], _ => rfl
  | k :: ks, xs => by
    show (kil ks (xs.set k zU)).length = _
    rw [kil_len ks, List.length_set]
theorem kil_get : ∀ (ks : List Nat) (xs : List Value) {j : Nat} {v : Value}, (kil ks xs)[j]? = some v → isL v = true → xs[j]? = some v
  | [], _, _, _, h, _ => h
  | k :: ks, xs, j, v, h, hl => by
    have h1 := kil_get ks (xs.set k zU) h hl
    rw [List.getElem?_set] at h1
    by_cases e : k = j
    · subst e
      rw [if_pos rfl] at h1
      split at h1
      · cases h1
        cases hl
      · cases h1
    · rw [if_neg e] at h1
      exact h1
theorem lcO.kil {bs : Nat} {ra : Nat → Nat} {nL : Nat} {xs : List Value} {ls : Array Slot} (h : lcO bs ra nL xs ls) (ks : List Nat) : lcO bs ra nL (kil ks xs) ls :=
  lcO.of h.2 (by rw [kil_len]; exact h.1) (fun j v hv hl => zlv_mem.mpr ⟨j, v, kil_get ks xs hv hl, by omega, hl, rfl⟩)
theorem lcO_kk {bs : Nat} {ra : Nat → Nat} {nL mi n : Nat} {xs : List Value} {ls : Array Slot} (h : lcO bs ra nL xs ls) : lcO bs ra nL (kk mi n xs) ls := by
  unfold kk
  split
  · exact h
  · exact h.kil _
/-- at a method's entry -/
theorem zlay_args {bs : Nat} {ra : Nat → Nat} : ∀ (as : List Value) (i m : Nat) {j : Nat} {w : Value}, (∀ v ∈ as, isL v = true) → (j, w) ∈ zlv bs ra i (zlay as ++ List.replicate m zU) → (j, w) ∈ lv_args i (as.map (trV bs ra))
  | [], i, m, j, w, _, h => by
    obtain ⟨k, v, h1, h2, h3, h4⟩ := zlv_mem.mp h
    simp only [zlay, List.nil_append] at h1
    have h5 := List.mem_of_getElem? h1
    rw [(List.mem_replicate.mp h5).2] at h3
    cases h3
  | v :: r, i, m, j, w, ha, h => by
    have ih := fun i => @zlay_args bs ra r i m j w (fun v hv => ha v (List.mem_cons_of_mem _ hv))
    have hv := ha v List.mem_cons_self
    cases v with
    | int x =>
      rcases List.mem_cons.mp (show (j, w) ∈ (i, Value.int x) :: zlv bs ra (i + 1) (zlay r ++ List.replicate m zU) from h) with h | h
      · rw [h]; exact List.mem_cons_self
      · exact List.mem_cons_of_mem _ (ih (i + 1) h)
    | ref x =>
      rcases List.mem_cons.mp (show (j, w) ∈ (i, trV bs ra (.ref x)) :: zlv bs ra (i + 1) (zlay r ++ List.replicate m zU) from h) with h | h
      · rw [h]; exact List.mem_cons_self
      · exact List.mem_cons_of_mem _ (ih (i + 1) h)
    | long x =>
      rcases List.mem_cons.mp (show (j, w) ∈ (i, Value.long x) :: zlv bs ra (i + 1 + 1) (zlay r ++ List.replicate m zU) from h) with h | h
      · rw [h]; exact List.mem_cons_self
      · exact List.mem_cons_of_mem _ (ih (i + 1 + 1) h)
    | _ => cases hv
