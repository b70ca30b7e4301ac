-- String's members over the texts: they read, and leave the heap
def slen : List Nat := [6, 6, 2, 5, 2, 3, 4, 3, 4, 5]
def sbyt : List (List Int32) := [[100, 101, 118, 105, 99, 101], [100, 114, 105, 118, 101, 114], [105, 110], [110, 101, 101, 100, 115], [111, 114], [109, 97, 112], [108, 105, 110, 101], [103, 101, 116], [103, 105, 118, 101], [98, 114, 101, 97, 107]]
def sch (i k : Nat) : Int32 := (sbyt.getD i []).getD k 0
theorem sch_ok : ∀ i, i < 10 → ∀ k, k < slen.getD i 0 → ((sch i k &&& 255).toUInt32 % 65536).toInt32 = sch i k ∧ narrow .char (.int (sch i k)) = .int (sch i k) := by decide +kernel
def XS (bs : Nat) (ra : Nat → Nat) (U : State) (H : Heap) : Prop := vk_S 10 slen sbyt (fun i => ra (1020 + i)) (fun i => ra (1030 + i)) (zA bs) U H ∧ va_Z "java/lang/String" "COMPACT_STRINGS" "Z" (.int 1) (zA bs) U H ∧ va_Zq "jdk/internal/util/Preconditions" "SIOOBE_FORMATTER" "Ljava/util/function/BiFunction;" (zA bs) U H
theorem XS.moved {bs : Nat} {ra : Nat → Nat} {u U : State} {H : Heap} (hvm : u.vm.Alike U.vm) (h : XS bs ra u H) : XS bs ra U H := ⟨h.1.moved hvm, h.2.1.moved hvm, h.2.2.moved hvm⟩
theorem XS.kept {bs : Nat} {ra : Nat → Nat} {U : State} {H H1 : Heap} (h : XS bs ra U H) (hq : ∀ a : Nat, a < H.size → ¬ zA bs a → H1[a]? = H[a]?) : XS bs ra U H1 := ⟨h.1.kept hq, h.2.1.kept hq, h.2.2.kept hq⟩
def PcS (bs : Nat) (ra : Nat → Nat) (av : List Value) : Array Value → State → Prop := fun v U => v = av.toArray ∧ XS bs ra U U.heap
theorem PcS_blind {bs : Nat} {ra : Nat → Nat} (av : List Value) : FrameBlind (PcS bs ra av) := fun a U g mk h => ⟨h.1, XS.moved (u := U) (U := U.calling g mk a) (Vm.Alike.refl U.vm) h.2⟩
def QcO (v : Option Value) : Array Value → State → Outcome → State → Prop := fun _ st o t => o = .returned v ∧ t.heap = st.heap
def rmS (n : Nat) : Room := { frames := n, cells := 0, slots := 0, locals := 40 * n }
section STR
variable {bs : Nat} {ra : Nat → Nat} {l : Launch}
variable {p : Program} {e : Env} {R : Room} {s : State} {m : MethodId} {args : Array Value} {below : List Frame} {meth : Method} {c : Code} {H : Heap} {locs : List Loc} {cells slots : Nat} {Q : State → Prop}
/-- a pure call goes on -/
theorem call_pure {v : Option Value} {g : JFrame} {rest : List Value} {a : Array Value} (hr : CallRun p l e R s m args below meth c H locs cells slots 0 0 g rest (QcO v a) (fun _ => False)) (kk : W p l e R s m args below meth c H locs cells slots Q { g with pc := g.pc + 3, stack := v.toList ++ rest }) : W p l e R s m args below meth c H locs cells slots Q g := by
  intro T hT X
  obtain ⟨v', st₀, t, T', L, h0, X', hL, e1, ⟨hv, hh⟩, st⟩ := hr T hT X
  cases hv
  obtain ⟨t2, a1, b1⟩ := kk T' (by rw [e1, hh, h0]) (Stand.forget X' (fun q h => (hL q h).elim))
  exact ⟨t2, st t2 a1, b1⟩
theorem gd_pay {y : MethodName} {bytes : ByteArray} {maxL : Nat} {ret : Option FieldType} (hk : Cond.code y bytes maxL ret ∈ lw_tbl) (hts : ∀ w ∈ lw_gd, w.before args s = true) : ∀ w ∈ (Cond.code y bytes maxL ret :: lw_gd), ∀ (a' : Array Value) (U : State), s.WarmedH U.vm → w.before a' U = true := by
  refine pay_in hts (fun w hw => ?_)
  have hg : w ∈ lw_gd := by
    rcases List.mem_cons.mp hw with rfl | hw
    · exact gd_in hk rfl
    · exact hw
  exact ⟨hg, good_of_word (List.mem_filter.mp hg).2⟩
/-- a static pure call -/
theorem pureS {y : MethodName} {bytes cc : ByteArray} {maxL nL idx n pc fn : Nat} {ret : Option FieldType} {own : String} {As rest : List Value} {v : Option Value} {ls : Array Slot} (hx : p.tables.exec = Jvm.exec) (hb : c.code = cc) (hml : c.maxLocals = nL) (hown : s.vm.findClass own = some m.cls) (hts : ∀ w ∈ lw_gd, w.before args s = true) (hXS : XS bs ra s s.heap)
    (hM : Met l y (Cond.code y bytes maxL ret :: lw_gd) (rmS fn) (PcS bs ra As) (QcO v) 0 0 (fun _ => False)) (hk : Cond.code y bytes maxL ret ∈ lw_tbl) (hst : Cond.static y ∈ lw_tbl) (hin : Cond.initialized y.cls ∈ lw_tbl) (hli : Cond.methodLink own idx y ∈ lw_tbl) (hcl : y.cls ≠ "java/lang/invoke/MethodHandle" ∧ y.cls ≠ "java/lang/invoke/VarHandle") (hnp : npk y n = true) (hmL : maxL ≤ 20)
    (hn : As.length = n) (hls : ls.size = nL) (hW : (rest.map fun v => v.category).sum ≤ 8) (hR : fn + 1 ≤ R.frames ∧ 40 * fn + 39 ≤ R.locals ∧ cells ≤ R.cells ∧ slots ≤ R.slots) (hdg : decode cc pc = .ok (.invokestatic idx, 3))
    (kk : W p l e R s m args below meth c s.heap locs cells slots Q (F0 m (pc + 3) ls (v.toList ++ rest))) : W p l e R s m args below meth c s.heap locs cells slots Q (F0 m pc ls (As.reverse ++ rest)) := by
  refine call_pure (W.runS ⟨hx, hb, hml, hown, hts⟩ hM ⟨⟨rfl, rfl, hR.1, by show 8 + (maxL + 11) + 40 * fn ≤ R.locals; omega, gd_pay hk hts, List.mem_cons_self, hts _ (gd_in hk rfl), hts _ (gd_in hin rfl), hcl, fun sig hs => ?_, hts _ (gd_in hli rfl)⟩, hts _ (gd_in hst rfl)⟩ ⟨PcS_blind _, fun U hU hWm => ⟨rfl, by rw [hU]; exact hXS.moved hWm.alike⟩⟩ rfl hn hls rfl (by show 2 * 0 + _ ≤ 8; omega) hdg ⟨hR.2.2.1, hR.2.2.2⟩) kk
  have h2 := of_decide_eq_true hnp
  rw [hs] at h2
  exact (Option.some.inj h2).symm
/-- a pure call of a text's method -/
theorem pureV {y : MethodName} {bytes cc : ByteArray} {maxL nL idx n pc fn i : Nat} {ret : Option FieldType} {own : String} {As rest : List Value} {v : Option Value} {ls : Array Slot} (hx : p.tables.exec = Jvm.exec) (hb : c.code = cc) (hml : c.maxLocals = nL) (hown : s.vm.findClass own = some m.cls) (hts : ∀ w ∈ lw_gd, w.before args s = true) (hXS : XS bs ra s s.heap) (hi : i < 10)
    (hM : Met l y (Cond.code y bytes maxL ret :: lw_gd) (rmS fn) (PcS bs ra (.ref (ra (1020 + i)) :: As)) (QcO v) 0 0 (fun _ => False)) (hyc : y.cls = "java/lang/String") (hk : Cond.code y bytes maxL ret ∈ lw_tbl) (hst : Cond.instanceMethod y ∈ lw_tbl) (hse : Cond.selects "java/lang/String" y y ∈ lw_tbl) (hli : Cond.methodLink own idx y ∈ lw_tbl) (hnp : npk y n = true) (hmL : maxL ≤ 20)
    (hn : As.length = n) (hls : ls.size = nL) (hW : (rest.map fun v => v.category).sum ≤ 8) (hR : fn + 1 ≤ R.frames ∧ 40 * fn + 39 ≤ R.locals ∧ cells ≤ R.cells ∧ slots ≤ R.slots) (hdg : decode cc pc = .ok (.invokevirtual idx, 3))
    (kk : W p l e R s m args below meth c s.heap locs cells slots Q (F0 m (pc + 3) ls (v.toList ++ rest))) : W p l e R s m args below meth c s.heap locs cells slots Q (F0 m pc ls (As.reverse ++ .ref (ra (1020 + i)) :: rest)) := by
  refine call_pure (W.runV (C := "java/lang/String") ⟨hx, hb, hml, hown, hts⟩ hM ⟨⟨rfl, rfl, hR.1, by show 8 + (maxL + 11) + 40 * fn ≤ R.locals; omega, gd_pay hk hts, List.mem_cons_self, hts _ (gd_in hk rfl), by rw [hyc]; exact hts _ (gd_in nS_str rfl), by rw [hyc]; decide, fun sig hs => ?_, hts _ (gd_in hli rfl)⟩, hts _ (gd_in hst rfl), hts _ (gd_in hse rfl)⟩ ⟨PcS_blind _, ?_, fun U hU hWm => ⟨rfl, by rw [hU]; exact hXS.moved hWm.alike⟩⟩ rfl hn hls rfl (by show 2 * 0 + _ ≤ 8; omega) hdg ⟨hR.2.2.1, hR.2.2.2⟩) kk
  · have h2 := of_decide_eq_true hnp
    rw [hs] at h2
    exact (Option.some.inj h2).symm
  · obtain ⟨cell, h1, h2, h3, -⟩ := (hXS.1.1 i hi).1
    exact ⟨cell, h1, h2, h3⟩
end STR
