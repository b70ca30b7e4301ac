-- new int[n][k]: the row of the machine
/-- behind new int[n][k]: the row of rows at h0, i of its rows made -/
def mnH (cX comp : ClassId) (N M h0 : Nat) (H : Heap) (i : Nat) (H1 : Heap) : Prop :=
  H1.size = h0 + 1 + i ∧ (∀ a : Nat, a < h0 → H1[a]? = H[a]?) ∧ H1[h0]? = some (arrV cX N (fun j => if j < i then .ref (h0 + 1 + j) else .null)) ∧ ∀ j : Nat, j < i → H1[h0 + 1 + j]? = some (arrV comp M (fun _ => .int 0))
/-- the class of int[][], its component that of int[] -/
def XM (U : State) : Prop := ∃ (cX : ClassId) (kX : Class) (comp : ClassId), U.vm.findClass "[[I" = some cX ∧ U.vm.classes[cX]? = some kX ∧ kX.kind = .array comp (.array .int) ∧ U.vm.findClass "[I" = some comp
theorem XM.moved {u U : State} (hvm : u.vm.Alike U.vm) (h : XM u) : XM U := by
  obtain ⟨cX, kX, comp, h1, h2, h3, h4⟩ := h
  obtain ⟨k', hk', he⟩ := hvm.2.2 _ _ h2
  exact ⟨cX, k', comp, by rw [hvm.findClass]; exact h1, hk', by rw [he]; exact h3, by rw [hvm.findClass]; exact h4⟩
theorem XM.of {A : Array Value} {s : State} (h : (Cond.arrayOver (.array .int)).before A s = true) : XM s := by
  obtain ⟨comp, c, k, h1, -, h3, h4, h5⟩ := arrayOverA_spec h
  exact ⟨c, k, comp, h5, h3, h4, h1⟩
section MNA
variable {p : Program} {l : Launch} {e : Env} {R : Room} {s : State} {m : MethodId} {args : Array Value} {below : List Frame} {meth : Method} {c : Code} {H : Heap} {locs : List Loc} {cells slots : Nat} {Q : State → Prop}
theorem mk_one {E : CtlPost} {d : Bool} {acts : List Action} {S : State} {comp cc' : ClassId} {kC : Class} (hkC : S.vm.classes[comp]? = some kC) (hkindC : kC.kind = .array cc' .int) {k : Int32} {M : Nat} (hk : ¬ k < 0) (eM : k.toNatClampNeg = M) (hl : ¬ M > e.platform.arrayLengthLimit) (hh : ¬ M * componentBytes .int > e.platform.maxHeapBytes) (h1 : S.heap.size < e.platform.maxCells) (h2 : S.slotsUsed + M ≤ e.platform.maxSlots)
    {Q' : Addr → Pre} (hq : ∀ acts', Q' S.heap.size d acts' (S.pushCell (arrV comp M (fun _ => .int 0)))) : wp (multianewarray.make comp [k]) Q' E e d acts S := by
  rw [multianewarray.make]
  simp only [wp_bind', Jvm.W.ite, hk, if_false, wp_pure', Jvm.W.theClass, hkC, hkindC, Option.some.injEq, exists_eq_left']
  rw [eM]
  refine Jvm.W.newArray_of hkC hkindC hl hh h1 h2 rfl (fun acts' => ?_)
  have h9 := hq acts'
  rw [← arrV_new] at h9
  exact h9
/-- the state with i of the rows made -/
def mnU (S : State) (cX comp : ClassId) (N M : Nat) : Nat → State
  | 0 => S.pushCell (arrV cX N (fun _ => .null))
  | i + 1 => ((mnU S cX comp N M i).pushCell (arrV comp M (fun _ => .int 0))).setCell S.heap.size (arrV cX N (fun j => if j < i + 1 then .ref (S.heap.size + 1 + j) else .null))
theorem mn_cell {cX : ClassId} {N h0 x : Nat} {v : Nat} (hv : v = h0 + 1 + x) : (arrV cX N (fun j => if j < x then .ref (h0 + 1 + j) else .null)).setSlot x (.ref v) = arrV cX N (fun j => if j < x + 1 then .ref (h0 + 1 + j) else .null) := by
  rw [arrV_store]
  refine arrV_ag (fun j hj => ?_)
  unfold updV
  by_cases hjx : j = x
  · subst hjx
    rw [if_pos rfl, if_pos (by omega), hv]
  · rw [if_neg hjx]
    show (if j < x then Value.ref (h0 + 1 + j) else .null) = _
    by_cases hj2 : j < x
    · rw [if_pos hj2, if_pos (by omega)]
    · rw [if_neg hj2, if_neg (by omega)]
theorem mnU_ok {S : State} (X₁ : Stand p l e R s m args below meth c S locs cells slots) (cX comp : ClassId) (N M : Nat) : ∀ i : Nat, (mnU S cX comp N M i).vm = S.vm ∧ (mnU S cX comp N M i).slotsUsed = S.slotsUsed + N + i * M ∧ mnH cX comp N M S.heap.size S.heap i (mnU S cX comp N M i).heap ∧ Stand p l e R s m args below meth c (mnU S cX comp N M i) locs (cells + 1 + i) (slots + N + i * M) := by
  intro i
  induction i with
  | zero =>
    refine ⟨rfl, ?_, ⟨?_, ?_, ?_, ?_⟩, ?_⟩
    · show S.slotsUsed + (arrV cX N (fun _ => .null)).slots.size = _
      rw [arrV_size, Nat.zero_mul, Nat.add_zero]
    · show (S.heap.push _).size = _
      rw [Array.size_push]
    · intro a ha
      exact State.heap_pushCell_of_lt _ _ ha
    · show (S.pushCell (arrV cX N (fun _ => .null))).heap[S.heap.size]? = _
      rw [State.heap_pushCell_size]
      congr 1
    · intro j hj
      exact absurd hj (Nat.not_lt_zero _)
    · have h9 := X₁.pushed (arrV cX N (fun _ => .null))
      rw [arrV_size] at h9
      rw [Nat.zero_mul]
      exact h9
  | succ x ih =>
    obtain ⟨hvm, hsl, ⟨g1, g2, g3, g4⟩, XU⟩ := ih
    have hlt0 : S.heap.size < (mnU S cX comp N M x).heap.size := by rw [g1]; omega
    have hcel : ((mnU S cX comp N M x).pushCell (arrV comp M (fun _ => .int 0))).heap[S.heap.size]? = some (arrV cX N (fun j => if j < x then .ref (S.heap.size + 1 + j) else .null)) := by
      rw [State.heap_pushCell_of_lt _ _ hlt0]
      exact g3
    have hU : mnU S cX comp N M (x + 1) = ((mnU S cX comp N M x).pushCell (arrV comp M (fun _ => .int 0))).setCell S.heap.size (arrV cX N (fun j => if j < x + 1 then .ref (S.heap.size + 1 + j) else .null)) := rfl
    rw [hU]
    refine ⟨hvm, ?_, ⟨?_, ?_, ?_, ?_⟩, ?_⟩
    · show (mnU S cX comp N M x).slotsUsed + (arrV comp M (fun _ => .int 0)).slots.size = _
      rw [arrV_size, hsl, Nat.succ_mul]
      omega
    · show (((mnU S cX comp N M x).heap.push _).setIfInBounds _ _).size = _
      rw [Array.size_setIfInBounds, Array.size_push, g1]
      omega
    · intro a ha
      rw [heapAt_setCell_ne _ (show S.heap.size ≠ a by omega), State.heap_pushCell_of_lt _ _ (show a < (mnU S cX comp N M x).heap.size by omega)]
      exact g2 a ha
    · rw [heapAt_setCell_self _ (by show _ < ((mnU S cX comp N M x).heap.push _).size; rw [Array.size_push]; omega)]
    · intro j hj
      rw [heapAt_setCell_ne _ (show S.heap.size ≠ S.heap.size + 1 + j by omega)]
      by_cases hj2 : j < x
      · rw [State.heap_pushCell_of_lt _ _ (show S.heap.size + 1 + j < (mnU S cX comp N M x).heap.size by omega)]
        exact g4 j hj2
      · have e9 : j = x := by omega
        subst e9
        rw [← g1, State.heap_pushCell_size]
    · have h9 := (XU.pushed (arrV comp M (fun _ => .int 0))).stored hcel x (.ref (mnU S cX comp N M x).heap.size)
      rw [arrV_size, mn_cell g1] at h9
      have h10 := h9.dropFresh (fun z hz => by
        rw [List.mem_singleton] at hz
        rw [hz]
        exact X₁.heapGrown)
      rw [show slots + N + (x + 1) * M = slots + N + x * M + M by rw [Nat.succ_mul]; omega]
      exact h10
set_option maxHeartbeats 2000000 in
theorem mk_two {E : CtlPost} {d : Bool} {acts : List Action} {S : State} {g' : JFrame} (X₁ : Stand p l e R s m args below meth c S locs cells slots) {cX comp cc' : ClassId} {kX kC : Class} (hkX : S.vm.classes[cX]? = some kX) (hkindX : kX.kind = .array comp (.array .int)) (hkC : S.vm.classes[comp]? = some kC) (hkindC : kC.kind = .array cc' .int) {n k : Int32} {N M : Nat} (hn : ¬ n < 0) (hk : ¬ k < 0) (eN : n.toNatClampNeg = N) (eM : k.toNatClampNeg = M)
    (hl1 : ¬ N > e.platform.arrayLengthLimit) (hh1 : ¬ N * componentBytes (.array .int) > e.platform.maxHeapBytes) (hl2 : 0 < N → ¬ M > e.platform.arrayLengthLimit) (hh2 : 0 < N → ¬ M * componentBytes .int > e.platform.maxHeapBytes) (hc1 : S.heap.size + (1 + N) ≤ e.platform.maxCells) (hc2 : S.slotsUsed + (N + N * M) ≤ e.platform.maxSlots)
    {Q' : Addr → Pre} (hq : ∀ (d' : Bool) (acts' : List Action), Q' S.heap.size d' acts' ((mnU S cX comp N M N).setTop g')) : wp (multianewarray.make cX [n, k]) Q' E e d acts (S.setTop g') := by
  have hfind : ([k].find? (· < 0)) = none := by simp [hk]
  rw [multianewarray.make]
  simp only [wp_bind', Jvm.W.ite, hn, if_false, wp_pure', Jvm.W.theClass, State.vm_setTop, hkX, hkindX, Option.some.injEq, exists_eq_left']
  rw [eN]
  refine Jvm.W.newArray_of (s := S.setTop g') hkX hkindX hl1 hh1 (by show S.heap.size < _; omega) (by show S.slotsUsed + N ≤ _; have := Nat.zero_le (N * M); omega) rfl (fun acts1 => ?_)
  simp only [hfind]
  rw [ite_self, wp_bind', Std.Legacy.Range.forIn_eq_forIn_range']
  have hsz : ([:N] : Std.Legacy.Range).size = N := by simp [Std.Legacy.Range.size]
  rw [hsz]
  show wp (forIn (List.range' 0 N 1) PUnit.unit _) _ E e d acts1 _
  refine wp_forIn_inv (fun rest s' => ∃ i : Nat, i ≤ N ∧ rest = List.range' i (N - i) ∧ s' = (mnU S cX comp N M i).setTop g') _ _ ?_ ?_ ?_
  · refine ⟨0, Nat.zero_le _, rfl, ?_⟩
    show _ = (S.pushCell (arrV cX N (fun _ => .null))).setTop g'
    rw [← arrV_new]
    rfl
  · rintro x rest s' d' acts' Q2 ⟨i, hi, hl, rfl⟩ hnext
    have hlt : i < N := by
      rcases Nat.lt_or_ge i N with h | h
      · exact h
      · rw [show N - i = 0 by omega] at hl
        cases hl
    rw [show N - i = (N - (i + 1)) + 1 by omega, List.range'_succ] at hl
    obtain ⟨rfl, hrest⟩ := List.cons.inj hl
    obtain ⟨hvm, hsl, ⟨g1, g2, g3, g4⟩, XU⟩ := mnU_ok X₁ cX comp N M x
    have hmul : x * M + M ≤ N * M := by
      have h9 := Nat.mul_le_mul_right M (show x + 1 ≤ N from hlt)
      rw [Nat.succ_mul] at h9
      exact h9
    have hN0 : 0 < N := Nat.lt_of_le_of_lt (Nat.zero_le _) hlt
    simp only [wp_bind']
    refine mk_one (S := (mnU S cX comp N M x).setTop g') (comp := comp) (cc' := cc') (kC := kC) (by show (mnU S cX comp N M x).vm.classes[comp]? = some kC; rw [hvm]; exact hkC) hkindC hk eM (hl2 hN0) (hh2 hN0) (by show (mnU S cX comp N M x).heap.size < _; rw [g1]; omega) (by show (mnU S cX comp N M x).slotsUsed + M ≤ _; rw [hsl]; omega) (fun acts2 => ?_)
    have hlt0 : S.heap.size < (mnU S cX comp N M x).heap.size := by rw [g1]; omega
    have hcel : ((mnU S cX comp N M x).pushCell (arrV comp M (fun _ => .int 0))).heap[S.heap.size]? = some (arrV cX N (fun j => if j < x then .ref (S.heap.size + 1 + j) else .null)) := by
      rw [State.heap_pushCell_of_lt _ _ hlt0]
      exact g3
    simp only [wp_bind', Jvm.W.writeLoc, wp_pure']
    refine ⟨_, hcel, (by intro z; cases z), (by rw [arrV_size]; exact hlt), ?_, hnext _ _ _ ⟨x + 1, hlt, hrest, ?_⟩⟩
    · show State.fitsSlot _ cX .none x (.ref _) = true
      have hk9 : (mnU S cX comp N M x).vm.classes[cX]? = some kX := by
        rw [hvm]
        exact hkX
      simp [State.fitsSlot, State.slotType?, hk9, hkindX, fits]
    · show (((mnU S cX comp N M x).pushCell (arrV comp M (fun _ => .int 0))).setCell S.heap.size ((arrV cX N (fun j => if j < x then .ref (S.heap.size + 1 + j) else .null)).setSlot x (.ref (mnU S cX comp N M x).heap.size))).setTop g' = _
      rw [mn_cell g1]
      rfl
  · rintro s' d' acts' ⟨i, hi, hl, rfl⟩
    have hiN : i = N := by
      rcases Nat.lt_or_ge i N with h | h
      · rw [show N - i = (N - (i + 1)) + 1 by omega, List.range'_succ] at hl
        cases hl
      · omega
    subst hiN
    simp only [wp_pure']
    exact hq _ _
set_option maxHeartbeats 2000000 in
theorem W_mna {cc : ByteArray} (hexec : p.tables.exec = Jvm.exec) (hb : c.code = cc) {own : String} {index : Nat} (hown : s.vm.findClass own = some m.cls) (hclink : (Cond.classLink own index "[[I").before args s = true) (hM : XM s) (hac : (Cond.arrayClass .int).before args s = true)
    {pc : Nat} {ls : Array Slot} {n k : Int32} {rest : List Value} {N M : Nat} (hdg : decode cc pc = .ok (.multianewarray index 2, 4)) (hn : ¬ n < 0) (hk : ¬ k < 0) (eN : n.toNatClampNeg = N) (eM : k.toNatClampNeg = M) (hb1 : N ≤ 60000000) (hb2 : 0 < N → M ≤ 60000000) (hcells : cells + (1 + N) ≤ R.cells) (hslots : slots + (N + N * M) ≤ R.slots)
    (kk : ∀ (cX comp : ClassId) (H1 : Heap), s.vm.findClass "[[I" = some cX → s.vm.findClass "[I" = some comp → mnH cX comp N M H.size H N H1 → W p l e R s m args below meth c H1 locs (cells + 1 + N) (slots + N + N * M) Q (F0 m (pc + 4) ls (.ref H.size :: rest))) : W p l e R s m args below meth c H locs cells slots Q (F0 m pc ls (.int k :: .int n :: rest)) := by
  intro T hT X
  subst hT; subst hb
  have hpl : e.platform.magicAccessors = ({} : Platform).magicAccessors := by rw [X.admits.platform]
  obtain ⟨cX, kX, comp, f1, f2, f3, f4⟩ := hM
  obtain ⟨comp', kC, cc', g1, g2, g3⟩ := Cond.arrayClass_spec hac
  have e1 : comp' = comp := Option.some.inj (g1.symm.trans f4)
  subst e1
  obtain ⟨c0, hfc0, hcl⟩ := Cond.classLink_spec hown hclink e.platform hpl
  cases f1.symm.trans hfc0
  obtain ⟨hg₁, hwarm₁, hready₁⟩ := State.classEntry (e := e) X.warmed hcl
  generalize T.vm.noted m.cls index (.cls cX) = vm₁ at hg₁ hwarm₁ hready₁
  have hal : s.vm.Alike vm₁ := hwarm₁.alike
  obtain ⟨kX₁, hkX₁, heX⟩ := hal.2.2 _ _ f2
  obtain ⟨kC₁, hkC₁, heC⟩ := hal.2.2 _ _ g2
  have hkindX₁ : kX₁.kind = .array comp' (.array .int) := by rw [heX]; exact f3
  have hkindC₁ : kC₁.kind = .array cc' .int := by rw [heC]; exact g3
  have X₁ := X.noted hwarm₁
  obtain ⟨hr1, hr2⟩ := X.roomAbove hcells hslots
  obtain ⟨-, -, hH, XU⟩ := mnU_ok X₁ cX comp' N M N
  obtain ⟨t, a1, b1⟩ := kk cX comp' (mnU (T.setVm vm₁) cX comp' N M N).heap f1 f4 hH _ rfl XU
  refine ⟨t, ?_, b1⟩
  have hl1 : ¬ N > e.platform.arrayLengthLimit := by rw [Launch.admits_arrayLengthLimit X.admits]; omega
  have hh1 : ¬ N * componentBytes (.array .int) > e.platform.maxHeapBytes := by
    rw [Launch.admits_maxHeapBytes X.admits]; show ¬ N * 4 > 536870912; omega
  have hl2 : 0 < N → ¬ M > e.platform.arrayLengthLimit := fun z => by rw [Launch.admits_arrayLengthLimit X.admits]; have := hb2 z; omega
  have hh2 : 0 < N → ¬ M * componentBytes .int > e.platform.maxHeapBytes := fun z => by
    rw [Launch.admits_maxHeapBytes X.admits]; show ¬ M * 4 > 536870912; have := hb2 z; omega
  jvm_step X.here [hexec, hdg]
  simp only [multianewarray.sem, wp_bind', Jvm.W.resolveClassAt_links (State.method?_setTop (F0 m pc ls (.int k :: .int n :: rest)) X.here.top) hg₁]
  rw [Jvm.W.popN, if_neg (by decide)]
  refine ⟨F0 m pc ls (.int k :: .int n :: rest), State.topJava?_setTop' (s := T.setVm vm₁) (F0 m pc ls (.int k :: .int n :: rest)) X.here.top, [.int n, .int k], rest, rfl, rfl, ?_⟩
  simp only [List.mapM_cons, List.mapM_nil, wp_bind', wp_pure']
  have eS : ((T.setTop (F0 m pc ls (.int k :: .int n :: rest))).setVm vm₁).setTop { (F0 m pc ls (.int k :: .int n :: rest)) with stack := rest } = (T.setVm vm₁).setTop { (F0 m pc ls (.int k :: .int n :: rest)) with stack := rest } := by
    show ((T.setVm vm₁).setTop (F0 m pc ls (.int k :: .int n :: rest))).setTop _ = _
    rw [State.setTop_setTop]
  rw [eS]
  refine mk_two (S := T.setVm vm₁) X₁ (comp := comp') (cc' := cc') hkX₁ hkindX₁ hkC₁ hkindC₁ hn hk eN eM hl1 hh1 hl2 hh2 (by show T.heap.size + _ ≤ _; omega) (by show T.slotsUsed + _ ≤ _; omega) (fun d' acts' => ?_)
  simp only [wp_bind', Jvm.W.mark, Jvm.W.pushRef, State.topJava?_setTop' _ XU.here.top, Option.some.injEq, exists_eq_left', State.setTop_setTop, State.heap_setTop]
  intro acts
  simp [jvm, XU.here.top]
  exact a1
end MNA
