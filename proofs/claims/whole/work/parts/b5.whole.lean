-- THE CLAIM (begun from kit/laws/SKELETON.whole.lean.txt)
/-! THE CLAIM OUT OF ONE WALK OF THE LAW'S BODY. Your part is whole_start (and what it stands on); all else here is the same for every law, but numbers. -/
def R_law : String := "LateBinderLaw"
def lw_P (b : Addr) (xs : List Int32) (args : Array Value) (s : State) : Prop := args = #[.ref b] ∧ s.IntsAt b xs ∧ xs.length ≤ 3584 ∧ (Jvm.Cond.and given_1 narrow_1).before args s = true
def lw_Q (_ : Array Value) (s : State) (o : Outcome) (t : State) : Prop := o = .returned (some (.int 1)) ∧ Framed s o t [] 601024 7293034
def lw_Z (below : List Frame) (a : Array Value) (s : State) : State → Prop := fun t => ∃ o, t.status = .running ∧ Ended t below o ∧ lw_Q a s o t
/-- the law's own end, with 1 on the stack, nothing written that was there before, its room as the claim has it -/
theorem lw_ret {p : Program} {l : Launch} {e : Env} {s : State} {m : MethodId} {below : List Frame} {meth : Method} {c : Code} {b : Nat} (hx : p.tables.exec = Jvm.exec) (hb : c.code = code) (hr : meth.sig.returnType = ret) (hlocks : meth.locks = false) {pc : Nat} {H : Heap} {ls : Array Slot} (hdg : decode code pc = .ok (.ireturn, 1)) : W p l e room_1 s m #[Value.ref b] below meth c H [] 601024 7293034 (lw_Z below #[Value.ref b] s) (F0 m pc ls [.int 1]) := by
  intro T hT X
  obtain ⟨fs, hret, hrun, hended, hW, hframe⟩ := X.leave (v := some (.int 1)) (hlocks := hlocks) (fun h => by rw [hr] at h; cases h)
  have hmeth' : T.vm.method? m = some meth := X.method'
  refine ⟨T.setFrames fs, ?_, .returned (some (.int 1)), hrun, hended, rfl, ⟨_, rfl⟩, hW, hframe⟩
  jvm_step X.here [X.here.top, hx, hb, hdg, hmeth', hr, ret, narrow_b1]
  (try refine ⟨rfl, ?_⟩); (try refine ⟨rfl, ?_⟩)
  first | (intro acts; rw [hret _ acts rfl rfl rfl]) | rw [hret _ _ rfl rfl rfl]
  exact Steps.refl _
/-- what holds at the law's entry: the machine, the code, the tables' words (any of lw_tbl by 'hts w (by decide +kernel)'), the script of L ints xs at the cell b, what the Statement gives of the start (any of its parts by flat_of_before) -/
def lw_At (p : Program) (s : State) (m : MethodId) (meth : Method) (c : Code) (b L : Nat) (xs : Nat → Int32) : Prop :=
  p.tables.exec = Jvm.exec ∧ c.code = code ∧ meth.sig.returnType = ret ∧ c.maxLocals = 7 ∧ s.vm.findClass R_law = some m.cls ∧ (∀ w ∈ lw_tbl, w.before #[Value.ref b] s = true) ∧ va_X b L xs s s.heap ∧ b < s.heap.size ∧ meth.locks = false ∧ (Jvm.Cond.and given_1 narrow_1).before #[Value.ref b] s = true
section LAWEND
variable {p : Program} {l : Launch} {e : Env} {s : State} {m : MethodId} {below : List Frame} {meth : Method} {c : Code} {b : Nat}
variable {bs : Nat} {ra : Nat → Nat} {cA : Nat → ClassId} {dC : Nat → ClassId} {dI : Nat → Nat → Nat} {ρ : Nat × (Nat → Int32)} {X : State → Heap → Prop}
/-- the law's end -/
theorem lw_fin (F : Fr bs ra cA dC dI ρ X p s m #[Value.ref b] c code "LateBinderLaw" 7) (hbs : bs = s.heap.size) (hr : meth.sig.returnType = ret) (hlk : meth.locks = false) {call : Nat → List Value → Sg → Rs} {k : Kn} {pc : Nat} {op : Op} {xs st : List Value} {σ τ : Sg} (hok : opk "LateBinderLaw" false ret code pc op = true) (hrt : isRet op.1 = true) (hc9 : τ.1.1 + τ.1.2.1 ≤ 601024) (hs9 : τ.1.2.2 ≤ 7293034)
    (h : stp zC zN ρ call mL op xs st σ k = some ([.int (nI 1)], τ)) : Gl bs ra cA dC dI p l e room_1 s m #[Value.ref b] below meth c 7 (lw_Z below #[Value.ref b] s) 0 0 pc xs st σ := by
  obtain ⟨hx, hb, hml, hown, hts, hK, hST, hbs9⟩ := F
  obtain ⟨i, n, a, v⟩ := op
  have hne : ∀ {j : Instr} {n : Nat}, decode code pc = .ok (j, pc + n - pc) → decode code pc = .ok (j, n) := fun {j n} hh => by rw [Nat.add_sub_cancel_left] at hh; exact hh
  cases i <;> first | (exact absurd (show false = true from hrt) (by decide)) | skip
  case ireturn =>
    simp only [opk, Bool.and_eq_true, decide_eq_true_eq] at hok
    obtain ⟨hd, rfl, hv⟩ := hok
    replace hd := hne hd
    dsimp only [stp] at h
    split at h
    case h_2 => cases h
    rename_i x
    have hx1 : x = nI 1 ∧ σ = τ := by
      split at h
      · cases h; exact ⟨rfl, rfl⟩
      · obtain ⟨-, h⟩ := ite_i h
        cases h; exact ⟨rfl, rfl⟩
    obtain ⟨rfl, rfl⟩ := hx1
    intro ls H locs cells slots hnc hl hP hS hc hs
    refine va_forget (fun q hq => by rw [← hbs]; exact hS.2.2 q hq) ?_
    refine W.widen (k := 601024) (n := 7293034) (by omega) (by omega) ?_
    exact lw_ret hx hb hr hlk hd
  all_goals
    exfalso
    dsimp only [stp] at h
    split at h <;> cases h
end LAWEND
set_option maxHeartbeats 4000000 in
theorem whole_start {p : Program} {e : Env} {s : State} {m : MethodId} {below : List Frame} {meth : Method} {c : Code} (l : Launch) (hflags : l.flags = flags0) {b L : Nat} {xs : Nat → Int32} (hL : L ≤ 3584) (C0 : lw_At p s m meth c b L xs) : W p l e room_1 s m #[Value.ref b] below meth c s.heap [] 0 0 (lw_Z below #[Value.ref b] s) (entryFrame m ([Value.ref b] : List Value).toArray 7) := by
  obtain ⟨hx, hb, hr, hml, hown, hts, hX, hbl, hlocks, hgv⟩ := C0
  have htr : l.stackTraces = false := by
    unfold Launch.stackTraces
    rw [hflags]
    decide
  obtain ⟨ra, hra, hST⟩ := st_start hts hX hbl hgv
  obtain ⟨cA, dC, dI, hK⟩ := kn_start hts
  have hgd : ∀ w ∈ lw_gd, w.before #[Value.ref b] s = true := fun w hw => hts w (List.mem_filter.mp hw).1
  have F : Fr s.heap.size ra cA dC dI (L, xs) (XX s.heap.size ra) p s m #[Value.ref b] c code "LateBinderLaw" 7 := ⟨hx, hb, hml, hown, hgd, hK, hST, Nat.le_refl _⟩
  have hXst := XX_st s.heap.size ra
  have hXa : ∀ U H, XX s.heap.size ra U H → va_AO "LateBinder$Bench" U ∧ va_AO "LateBinder$Key" U := fun U H h => h.2.2.1
  have hac : Cond.arrayClass .int ∈ lw_tbl ∧ Cond.arrayClass .long ∈ lw_tbl ∧ Cond.arrayClass .byte ∈ lw_tbl := ⟨w_ai, w_al2, w_ab⟩
  have hprim : ∀ d, PrimO s.heap.size ra cA dC dI (L, xs) (XX s.heap.size ra) l d (fun mi xs' σ => EV (L, xs) d mi 0 xs' [] σ) := fun d => prim_ok2 hXst (fun U H h => h.1) (fun U H h => h.2.1) (log_ok hXst hXa (fun U H h => h.2.2.2.1) htr hac d)
  have hmna : MnaOK s.heap.size ra cA dC dI (L, xs) (XX s.heap.size ra) l := mna_ok (fun U H h => h.2.2.2.2) w_ai
  have hmets := met_all2 hXst hXa hac hck_all hprim hmna 30
  obtain ⟨F1, R1, I1, L1, sl, hsl, hckF, hWS, hrun⟩ := law_0 (L, xs)
  obtain ⟨sF, hEV, hF1, hF2, hF3⟩ := lw_loop (d := 0) (ρ := (L, xs)) hL L 0 (0, sl) R1 I1 L1 0 (fun _ => 0) Q0 (tNew [] 0) 0 10 rfl (by decide) hWS (Nat.zero_le _)
  have hF2 : sF.1.2.1 ≤ 0 + (L - 0) := hF2
  have hF3 : sF.1.2.2 ≤ sl + 6 * (L - 0) := hF3
  have hNC : sF.1.1 = 281 := hF1
  have hR : (([.int (nI 1)], sF) : List Value × Sg).2.1.1 + (([.int (nI 1)], sF) : List Value × Sg).2.1.2.1 ≤ room_1.cells + 0 ∧ (([.int (nI 1)], sF) : List Value × Sg).2.1.2.2 ≤ room_1.slots + 0 := by
    show sF.1.1 + sF.1.2.1 ≤ 601024 + 0 ∧ sF.1.2.2 ≤ 7293034 + 0
    omega
  have hRs : (([.int (nI 1)], sF) : List Value × Sg).2.1.2.2 ≤ 60000000 := by
    show sF.1.2.2 ≤ 60000000
    omega
  have hle := EV_leS (L, xs) _ _ _ _ _ _ hEV
  obtain ⟨f, hf⟩ := EV_some.mp hEV
  have hRd : 30 + 11 ≤ room_1.frames ∧ 60 * 30 + 649 ≤ room_1.locals := ⟨Nat.le_of_ble_eq_true rfl, Nat.le_of_ble_eq_true rfl⟩
  have hret : ∀ (pc : Nat) (ys st : List Value) (σ : Sg) (k : Kn), isRet (tab 235 pc).1 = true → stp zC zN (L, xs) (fun mi xs' σ => EV (L, xs) 30 mi 0 xs' [] σ) mL (tab 235 pc) ys st σ k = some ([.int (nI 1)], sF) → Gl s.heap.size ra cA dC dI p l e room_1 s m #[Value.ref b] below meth c 7 (lw_Z below #[Value.ref b] s) 0 0 pc ys st σ := fun pc ys st σ k h1 h2 =>
    lw_fin F rfl hr hlocks (hck_law pc) h1 (by omega) (by omega) h2
  have hG1 : Gl s.heap.size ra cA dC dI p l e room_1 s m #[Value.ref b] below meth c 7 (lw_Z below #[Value.ref b] s) 0 0 23 [.ref 2000, .ref 0, .ref 257, .ref 280, .int (nI 0), zU, zU] [] (mk (0, sl) R1 I1 L1) :=
    run_snd2 (l := l) F hXst hXa hac (ini := false) (rt := ret) (fun z => by cases z) (d := 30) (fun mi' xs' s' q hq => EV_leS (L, xs) _ _ _ _ _ _ hq) hck_law hRd (Nat.le_refl _) hR hRs hlocks hmets (hprim 30) hmna hret f 23 _ [] _ hf
  have hG0 : Gl s.heap.size ra cA dC dI p l e room_1 s m #[Value.ref b] below meth c 7 (lw_Z below #[Value.ref b] s) 0 0 23 [.ref 2000, .ref 0, .ref 257, .ref 280, .int (nI 0), zU, zU] [] ((281, 0, sl), F1, R1, I1, L1) := by
    intro ls H locs cells slots hnc hl hP hS hc hs
    exact hG1 ls H locs cells slots hnc hl (wsO_ag hckF hP) hS hc hs
  have hle0 : leS ((281, 0, sl), F1, R1, I1, L1) sF := hle
  have hG : Gl s.heap.size ra cA dC dI p l e room_1 s m #[Value.ref b] below meth c 7 (lw_Z below #[Value.ref b] s) 0 0 0 [.ref 2000, zU, zU, zU, zU, zU, zU] [] σ0 := by
    refine run_sndK2 (l := l) (r := ([.int (nI 1)], sF)) F hXst hXa hac (ini := false) (rt := ret) (fun z => by cases z) (d := 30) (mi := 235) (call := fun mi xs' σ => EV (L, xs) 30 mi 0 xs' [] σ) (fun mi' xs' s' q hq => EV_leS (L, xs) _ _ _ _ _ _ hq) hck_law hRd (Nat.le_refl _) hR hRs hlocks hmets (hprim 30) hmna
      (K := fun n ys t τ => @ite _ (n = 23 ∧ ys = [.ref 2000, .ref 0, .ref 257, .ref 280, .int (nI 0), zU, zU] ∧ t = [] ∧ τ = ((281, 0, sl), F1, R1, I1, L1)) (Classical.propDecidable _) (some ([.int (nI 1)], sF)) none) ?_ ?_ hret 13 0 _ [] σ0 ?_
    · intro n ys t τ h
      obtain ⟨⟨-, -, -, rfl⟩, -⟩ := ite_i h
      exact hle0
    · intro n ys t τ h
      obtain ⟨⟨rfl, rfl, rfl, rfl⟩, -⟩ := ite_i h
      exact hG0
    · rw [hrun 24]
      exact if_pos ⟨rfl, rfl, rfl, rfl⟩
  have hl := lv_entry ([Value.ref b] : List Value) (n := 7) (Nat.le_of_ble_eq_true rfl)
  rw [lg_entry_eq]
  generalize (lg_sl ([Value.ref b] : List Value) ++ List.replicate (7 - (lg_sl ([Value.ref b] : List Value)).length) Slot.unset).toArray = ls at hl ⊢
  have hlc := ent_lc (bs := s.heap.size) (ra := ra) (as := [Value.ref 2000]) (n := 7) (ls := ls) (List.forall_mem_cons.mpr ⟨rfl, fun _ h => absurd h List.not_mem_nil⟩) (show 1 ≤ 7 from by decide) (by
    show lv_has ls 7 (lv_args 0 [Value.ref (trN s.heap.size ra 2000)])
    rw [trN_ge (by decide), hra]
    exact hl)
  refine hG ls s.heap [] 0 0 (Nat.zero_le _) hlc (fun k q hk => ?_) va_S.rf rfl rfl
  have : (wsO s.heap.size ra cA σ0)[k]? = none := rfl
  rw [this] at hk
  cases hk
set_option maxHeartbeats 4000000 in
theorem lw_walk (l : Launch) (hflags : l.flags = flags0) (b : Addr) (xs : List Int32) : MetFree l x (headSpec (Jvm.Cond.code x code maxLocals ret :: tables_1) room_1) (lw_P b xs) (fun _ _ _ _ _ => True) lw_Q := by
  refine MetFree.of_bodyS (code := code) (maxLocals := maxLocals) (ret := ret) (by decide) ?_ ?_
  · intro args s m h hn
    obtain ⟨meth, c, h1, h2, h3, h4, h5, h6, -, -⟩ := Cond.code_spec hn (atoms_spec (ws := Jvm.Cond.code x code maxLocals ret :: tables_1) h _ List.mem_cons_self)
    exact ⟨meth, c, h1, h2, h3, h4, h5, h6⟩
  · intro p e s m args below meth c s₁ B hml0 hP _
    obtain ⟨rfl, hx, hbd, hgv⟩ := hP
    obtain ⟨scr, harrAt, hlist, hof, hsmall⟩ := hx
    obtain ⟨hcb, hkn, -, -⟩ := State.arrayAt?_spec harrAt
    have hown : s.vm.findClass R_law = some m.cls := findClass_of_methodNamed B.named
    have hts0 : ∀ c ∈ (Jvm.Cond.code x code maxLocals ret :: tables_1), c.before #[Value.ref b] s = true := atoms_spec (ws := Jvm.Cond.code x code maxLocals ret :: tables_1) B.pre
    have hts : ∀ w ∈ lw_tbl, w.before #[Value.ref b] s = true := k2_hts_sels lw_privs (fun w hw => hts0 w (List.mem_cons_of_mem _ hw)) lw_privs_ok
    have hml : c.maxLocals = 7 := B.maxLocals_eq (hts0 _ List.mem_cons_self)
    have X₀ : Stand p l e room_1 s m #[Value.ref b] below meth c s₁ [] 0 0 := Stand.of_body B
    have hh0 : s₁.heap = s.heap := by rw [B.state]; rfl
    have hsz : scr.slots.size = xs.length := by rw [← Array.length_toList, hlist, List.length_map]
    have hval : ∀ j : Nat, j < xs.length → scr.slots[j]? = some (.int (xs.getD j 0)) := fun j hj => by
      rw [← Array.getElem?_toList, hlist]
      simp [hj]
    have hbl : b < s.heap.size := (Array.getElem?_eq_some_iff.mp hcb).1
    have hX : va_X b xs.length (fun j => xs.getD j 0) s s.heap := ⟨scr, hcb, hof, hkn, hsz, hval⟩
    have K : W p l e room_1 s m #[Value.ref b] below meth c s₁.heap [] 0 0 (lw_Z below #[Value.ref b] s) (entryFrame m ([Value.ref b] : List Value).toArray 7) := by
      rw [hh0]
      exact whole_start l hflags hbd ⟨B.exec, B.bytes, B.returns, hml, hown, hts, hX, hbl, B.notSynchronized, hgv⟩
    obtain ⟨t, a1, o, b1, b2, b3⟩ := K s₁ rfl X₀
    exact ⟨t, o, a1, b1, b2, b3⟩
theorem lw_pre_spec {args : Array Value} {s : State} (h : (Jvm.Cond.and given_1 narrow_1).before args s = true) (hr : rest_1_c.before args s = true) : ∃ (b : Addr) (xs : List Int32), lw_P b xs args s := by
  have hs := flat_of_before _ h
  have hq := flat_of_before _ hr
  have hc : (Cond.count 1).before args s = true := hs _ (by decide +kernel)
  have harr : (Cond.arrayOf (.arg 0) .int).before args s = true := hs _ (by decide +kernel)
  have hle : (Cond.le (.length (.arg 0)) (.int 3584)).before args s = true := hs _ (by decide +kernel)
  have hlen : (Cond.isInt (.length (.arg 0))).before args s = true := hq _ (by decide +kernel)
  have hall : (Cond.all (.arg 0) (.isInt (.elem (.arg 0) (.index 0)))).before args s = true := hq _ (by decide +kernel)
  obtain ⟨b, xs, hb, hx⟩ := State.ints_of_pre rfl harr hlen hall
  have hsm : xs.length < 2 ^ 31 := hx.choose_spec.2.2.2
  have hev : (Term.length (.arg 0)).eval args s none [] s = some (.int xs.length.toInt32) := hx.length_eval hb
  have hv := Cond.le_ints hev (show (Term.int 3584).eval args s none [] s = some (.int 3584) from rfl)
  have hd : xs.length.toInt32 ≤ 3584 := by
    simpa [Cond.before, Cond.holds, hv] using hle
  have hN : xs.length ≤ 3584 := (Int32.ofNat_le_ofNat hsm (by decide)).mp (show Int32.ofNat xs.length ≤ Int32.ofNat 3584 from hd)
  exact ⟨b, xs, Cond.one_arg hc (show args[0]? = some (.ref b) from hb), hx, hN, h⟩
theorem lw_comes (l : Launch) (hflags : l.flags = flags0) : Comes l x (Jvm.Cond.code x code maxLocals ret :: tables_1) room_1 (fun tb e args s => Calls_1 tb e args s ∧ rest_1 tb e args s ∧ Pre_1 tb e args s)
    (fun _ _ args s o t => lw_Q args s o t) := by
  intro p e ha hc hk s m args below hf hfit hheap happ hpre
  obtain ⟨b, xs, hP⟩ := lw_pre_spec hpre.2.2 hpre.2.1
  obtain ⟨k, o, h1, h2, h3, hQ⟩ := lw_walk l hflags b xs p e ha hc hk s m args below hf ((Spec.applies_iff_loose hf).mp happ).1 hP trivial
  exact ⟨k, o, h1, h2, h3, hQ⟩
theorem lw_frame {s t : State} {o : Outcome} {args : Array Value} (h : Framed s o t [] 601024 7293034) :
    Framed s o t (fieldLocs frame_1_writes args s ++ arrayLocs frame_1_arrays args s ++ staticLocs frame_1_statics s) 601024 7293034 := h
theorem lw_limb (L : Cond) (hL : ∀ (args : Array Value) (s t : State), L.after args s (.returned (some (.int 1))) t = true) :
    ArmFor flags0 classFile x code maxLocals ret World_1 tables_1 room_1 Calls_1 rest_1 Pre_1
      (fun tb e a s o t => postC L tb e a s o t ∧ Framed s o t (fieldLocs frame_1_writes a s ++ arrayLocs frame_1_arrays a s ++ staticLocs frame_1_statics s) 601024 7293034) := by
  intro l hflags _ _ p e ha hc hk s m args below hf hfit hheap happ hpre
  obtain ⟨k, o, h1, h2, h3, rfl, hF⟩ := lw_comes l hflags p e ha hc hk s m args below hf hfit hheap happ hpre
  exact ⟨k, _, h1, h2, h3, hL args s _, lw_frame hF⟩
theorem i_vc : Claimed_1_1 ∧ Claimed_1_2 := ⟨lw_limb limb_1_1 (fun args s t => by simp [limb_1_1, Cond.after, Cond.holds, Cond.value]), lw_limb limb_1_2 (fun args s t => Cond.after_iff.mpr (by
  first | (rw [show limb_1_2 = Cond.eq .result (.int 1) from rfl, Cond.eq_ints (x := 1) (y := 1) rfl rfl]; simp; done) | (simp [limb_1_2, Cond.value, Term.eval]; done)))⟩

