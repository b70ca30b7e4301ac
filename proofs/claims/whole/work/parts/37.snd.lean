-- SOUNDNESS, a step: the machine does what the abstract machine says
def leS (s t : Sg) : Prop := s.1.1 + s.1.2.1 ≤ t.1.1 + t.1.2.1 ∧ s.1.2.2 ≤ t.1.2.2 ∧ (s.1.1 ≤ NC → t.1.1 ≤ NC)
theorem leS.rf (s : Sg) : leS s s := ⟨Nat.le_refl _, Nat.le_refl _, fun h => h⟩
theorem leS.sm {s t : Sg} (h : t.1 = s.1) : leS s t := by unfold leS; rw [h]; exact ⟨Nat.le_refl _, Nat.le_refl _, fun h => h⟩
theorem leS.tr {s t u : Sg} (h : leS s t) (k : leS t u) : leS s u := ⟨Nat.le_trans h.1 k.1, Nat.le_trans h.2.1 k.2.1, fun z => k.2.2 (h.2.2 z)⟩
def lw_gd : List Cond := lw_tbl.filter goodWord
def isNst (w : Cond) : Bool := match w with
  | .fieldLinkNest .. => true
  | .methodLinkNest .. => true
  | _ => false
def zNst : List Cond := lw_tbl.filter isNst
def ztx (k : Nat) : String := ["device", "driver", "in", "needs", "or", "map", "line", "get", "give", "break"].getD k ""
/-- what stands of old: the constants, the script, the texts, the nest's words, and more (X) -/
def STt (bs : Nat) (ra : Nat → Nat) (ρ : Nat × (Nat → Int32)) (X : State → Heap → Prop) (U : State) (H : Heap) : Prop :=
  va_En "LateBinder$Key" "LLateBinder$Key;" zkn [] (fun i => ra (1000 + i)) (zA bs) U H ∧ va_X (ra 2000) ρ.1 ρ.2 U H ∧ ra 2000 < bs ∧ (∀ i, i < 10 → vk_R "LateBinderModel" (zsi i) (ztx i) (ra (1020 + i)) U) ∧ (∀ w ∈ zNst, va_Nw w U) ∧ X U H
def Fr (bs : Nat) (ra : Nat → Nat) (cA : Nat → ClassId) (dC : Nat → ClassId) (dI : Nat → Nat → Nat) (ρ : Nat × (Nat → Int32)) (X : State → Heap → Prop) (p : Program) (s : State) (m : MethodId) (args : Array Value) (c : Code) (cc : ByteArray) (own : String) (nL : Nat) : Prop :=
  p.tables.exec = Jvm.exec ∧ c.code = cc ∧ c.maxLocals = nL ∧ s.vm.findClass own = some m.cls ∧ (∀ w ∈ lw_gd, w.before args s = true) ∧ va_K (dC, dI) clz (tyz cA) s ∧ STt bs ra ρ X s s.heap ∧ bs ≤ s.heap.size
theorem gd_in {w : Cond} (h : w ∈ lw_tbl) (hg : goodWord w = true) : w ∈ lw_gd := List.mem_filter.mpr ⟨h, hg⟩
theorem gd_lays : ∀ (c : Nat) (q : vw_C), clz[c]? = some q → ∀ w ∈ u_ws q.1 q.2.1 q.2.2, w ∈ lw_gd := by
  intro c q hq w hw
  refine gd_in (clz_in c q hq w hw) ?_
  obtain ⟨k, hk, rfl⟩ := List.mem_map.mp hw
  unfold u_lay
  split <;> rfl
theorem trV_zr (bs : Nat) (ra : Nat → Nat) (o : Option Nat) : trV bs ra (zr o) = va_rf (o.map (trN bs ra)) := by cases o <;> rfl
section SND
variable {bs : Nat} {ra : Nat → Nat} {cA : Nat → ClassId} {dC : Nat → ClassId} {dI : Nat → Nat → Nat} {ρ : Nat × (Nat → Int32)} {X : State → Heap → Prop}
variable {p : Program} {l : Launch} {e : Env} {R : Room} {s : State} {m : MethodId} {args : Array Value} {below : List Frame} {meth : Method} {c : Code} {cc : ByteArray} {own : String} {nL : Nat} {Q : State → Prop}
/-- the machine, wherever the world is as σ says, comes to Q -/
def Gl (bs : Nat) (ra : Nat → Nat) (cA : Nat → ClassId) (dC : Nat → ClassId) (dI : Nat → Nat → Nat) (p : Program) (l : Launch) (e : Env) (R : Room) (s : State) (m : MethodId) (args : Array Value) (below : List Frame) (meth : Method) (c : Code) (nL : Nat) (Q : State → Prop) (c0 s0 : Nat) (pc : Nat) (xs st : List Value) (σ : Sg) : Prop :=
  ∀ (ls : Array Slot) (H : Heap) (locs : List Loc) (cells slots : Nat), σ.1.1 ≤ NC → lcO bs ra nL xs ls → va_P (dC, dI) clz (wsO bs ra cA σ) H → va_S (zA bs) s.heap H locs → cells + c0 = σ.1.1 + σ.1.2.1 → slots + s0 = σ.1.2.2 →
    W p l e R s m args below meth c H locs cells slots Q (F0 m pc ls (st.map (trV bs ra)))
/-- the heap is no larger than what was made -/
theorem W_size {H : Heap} {locs : List Loc} {cells slots : Nat} {g : JFrame} (h : H.size ≤ s.heap.size + cells → W p l e R s m args below meth c H locs cells slots Q g) : W p l e R s m args below meth c H locs cells slots Q g := by
  intro T hT X
  exact h (by rw [← hT]; exact X.heapSize) T hT X
theorem alq {H : Heap} {locs : List Loc} {cells slots : Nat} {ws : va_W} {a : Nat} {tys : List (ClassId × FieldType)} {pc : Nat} {ls : Array Slot} {rest : List Value} (hexec : p.tables.exec = Jvm.exec) (hb : c.code = cc) (hK : va_K (dC, dI) clz tys s) (hP : va_P (dC, dI) clz ws H) (q0 t0 : Nat) {cA : ClassId} {ty : FieldType} (hty : ty.isReference = true) {n : Nat} {f : Nat → Option Nat} (ha : ws[q0]? = some (a, .inl (cA, n, .inr (.inr (.inr (.inr f)))))) (ht : tys[t0]? = some (cA, ty)) {i : Int32} (hin : vp_in i n) (hdg : decode cc pc = .ok (.aaload, 1))
    (kk : W p l e R s m args below meth c H locs cells slots Q (F0 m (pc + 1) ls (va_rf (f i.toNatClampNeg) :: rest))) : W p l e R s m args below meth c H locs cells slots Q (F0 m pc ls (.int i :: .ref a :: rest)) := by
  have hlt : i.toNatClampNeg < n := Nat.not_le.mp fun q => hin (Or.inr q)
  exact W.aald (v := va_rf (f i.toNatClampNeg)) (ty := ty) hexec hb (hP q0 _ ha) ((hK.2 t0 _ ht).1 n (fun j => va_rf (f j))) hty (fun q => by cases q) (by show ¬ (i < 0 ∨ (arrV _ _ _).slots.size ≤ _); rw [arrV_size]; exact hin) (by show (arrV _ _ _).slots[_]? = _; rw [arrV_read _ _ hlt]) rfl rfl hdg kk
theorem trN_lt {k : Nat} (h : k < 1000) : trN bs ra k = bs + k := if_pos h
theorem trN_ge {k : Nat} (h : 1000 ≤ k) : trN bs ra k = ra k := if_neg (by omega)
end SND
theorem j3k_i {pc : Nat} {off : Int} {n : Nat} {a : List Nat} {t : Nat} (h : j3k pc off n a = true) (ha : a = [t]) : (pc : Int) + off = (t : Int) ∧ n = pc + 3 := by
  subst ha
  simpa [j3k, Bool.and_eq_true] using h
theorem zC_ok : ∀ k, k < NC → zC k < 9 ∨ (20 ≤ zC k ∧ zC k ≤ 25) := by decide +kernel
theorem zN_ok0 : ∀ k, k < NC → zC k < 9 → (clz[zC k]?).map (fun q => q.2.2) = some (zN k) := by decide +kernel
theorem zN_ok {k : Nat} {c : Nat} {q : vw_C} (hk : k < NC) (hc : zC k = c) (hq : clz[c]? = some q) : q.2.2 = zN k := by
  have hl : c < 9 := by
    have := (List.getElem?_eq_some_iff.mp hq).1
    simpa using this
  have h := zN_ok0 k hk (by rw [hc]; exact hl)
  rw [hc, hq] at h
  exact Option.some.inj h
theorem clz_own0 : ∀ c, c < 9 → ∀ j, j < 40 → (clz[c]?).all (fun q => !(decide (j < q.2.2)) || decide ((q.2.1 j).1 = q.1)) = true := by decide +kernel
theorem clz_own (c : Nat) (q : vw_C) (hq : clz[c]? = some q) (j : Nat) (hj : j < q.2.2) : (q.2.1 j).1 = q.1 := by
  have hl : c < 9 := by simpa using (List.getElem?_eq_some_iff.mp hq).1
  have h40 : ∀ c, c < 9 → (clz[c]?).all (fun q => decide (q.2.2 < 40)) = true := by decide +kernel
  have h4 := h40 c hl
  rw [hq] at h4
  have hj4 : j < 40 := Nat.lt_trans hj (of_decide_eq_true h4)
  have h := clz_own0 c hl j hj4
  rw [hq] at h
  simp only [Option.all_some, Bool.or_eq_true, Bool.not_eq_true', decide_eq_false_iff_not, decide_eq_true_eq] at h
  rcases h with h | h
  · exact absurd hj h
  · exact h
def fkb (c j : Nat) : Bool := match fk c j with
  | 0 => decide (TY c j = .int)
  | 1 => decide (TY c j = .long)
  | 2 => (TY c j).isReference
  | 3 => (TY c j).isReference
  | 4 => decide (TY c j = .boolean)
  | _ => false
theorem fkb_ok0 : ∀ c, c < 9 → ∀ j, j < 40 → (clz[c]?).all (fun q => !(decide (j < q.2.2)) || fkb c j) = true := by decide +kernel
theorem fkb_ok (c : Nat) (q : vw_C) (hq : clz[c]? = some q) (j : Nat) (hj : j < q.2.2) : fkb c j = true := by
  have hl : c < 9 := by simpa using (List.getElem?_eq_some_iff.mp hq).1
  have h40 : ∀ c, c < 9 → (clz[c]?).all (fun q => decide (q.2.2 < 40)) = true := by decide +kernel
  have h4 := h40 c hl
  rw [hq] at h4
  have hj4 : j < 40 := Nat.lt_trans hj (of_decide_eq_true h4)
  have h := fkb_ok0 c hl j hj4
  rw [hq] at h
  simp only [Option.all_some, Bool.or_eq_true, Bool.not_eq_true', decide_eq_false_iff_not] at h
  rcases h with h | h
  · exact absurd hj h
  · exact h
theorem ref_nar {ty : FieldType} (h : ty.isReference = true) (o : Option Nat) : narrow ty (va_rf o) = va_rf o ∧ fits ty (va_rf o) = true := by
  cases ty <;> first | (exact absurd (show false = true from h) (by decide)) | (cases o <;> exact ⟨rfl, rfl⟩)
