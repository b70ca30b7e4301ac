-- LOG: LateBinder.log, which throws, and the law's log, which catches
abbrev NSE : String := "java/util/NoSuchElementException"
abbrev thN : List String := ["java/lang/RuntimeException", "java/lang/Exception"]
/-- the words of the throw that don't keep by themselves -/
def zTh : List Cond := [.declares ⟨"java/lang/RuntimeException", "<init>", "()V"⟩, .declares ⟨"java/lang/Exception", "<init>", "()V"⟩, .declares ⟨"java/lang/Throwable", "<init>", "()V"⟩, .castable NSE NSE]
abbrev cLg : ByteArray := prog_1_method_25_code
def yLg : MethodName := ⟨"LateBinder", "log", "(II)I"⟩
abbrev cLL : ByteArray := method_3_code
def yLL : MethodName := ⟨"LateBinderLaw", "log", "(LLateBinder;II[J)I"⟩
abbrev hLL : List (Nat × Nat × Nat × Nat) := [(0, 10, 13, 13)]
theorem wL_code : Cond.code yLg cLg 3 (some .int) ∈ lw_tbl := List.mem_of_getElem? (i := 1015) (by decide +kernel)
theorem wL_ins : Cond.instanceMethod yLg ∈ lw_tbl := List.mem_of_getElem? (i := 1013) (by decide +kernel)
theorem wL_sel : Cond.selects "LateBinder" yLg yLg ∈ lw_tbl := List.mem_of_getElem? (i := 1014) (by decide +kernel)
theorem wL_lnk : Cond.methodLink "LateBinderLaw" 7 yLg ∈ lw_tbl := List.mem_of_getElem? (i := 1012) (by decide +kernel)
theorem wL_ini : Cond.initialized "LateBinder" ∈ lw_tbl := List.mem_of_getElem? (i := 113) (by decide +kernel)
theorem wL_nse : Cond.initialized NSE ∈ lw_tbl := List.mem_of_getElem? (i := 135) (by decide +kernel)
theorem wL_cl : Cond.classLink "LateBinder" 278 NSE ∈ lw_tbl := List.mem_of_getElem? (i := 1016) (by decide +kernel)
theorem wLL_code : Cond.codeWith yLL cLL 5 (some .int) hLL ∈ lw_tbl := List.mem_of_getElem? (i := 1010) (by decide +kernel)
theorem wLL_sta : Cond.static yLL ∈ lw_tbl := List.mem_of_getElem? (i := 1009) (by decide +kernel)
theorem wLL_ini : Cond.initialized "LateBinderLaw" ∈ lw_tbl := List.mem_of_getElem? (i := 112) (by decide +kernel)
theorem wLL_cl : Cond.classLink "LateBinderLaw" 13 NSE ∈ lw_tbl := List.mem_of_getElem? (i := 1011) (by decide +kernel)
theorem wJ_lnk : Cond.methodLink "LateBinder" 281 (yM 118) ∈ lw_tbl := List.mem_of_getElem? (i := 1077) (by decide +kernel)
theorem wJ_code : Cond.code (yM 118) (cM 118) (mL 118) (rM 118) ∈ lw_tbl := List.mem_of_getElem? (i := 1080) (by decide +kernel)
theorem wJ_ins : Cond.instanceMethod (yM 118) ∈ lw_tbl := List.mem_of_getElem? (i := 1078) (by decide +kernel)
theorem wJ_sel : Cond.selects "LateBinder$Journal" (yM 118) (yM 118) ∈ lw_tbl := List.mem_of_getElem? (i := 1079) (by decide +kernel)
theorem wJ_ini : Cond.initialized "LateBinder$Journal" ∈ lw_tbl := List.mem_of_getElem? (i := 116) (by decide +kernel)
theorem wT_d1 : Cond.declares ⟨"java/lang/RuntimeException", "<init>", "()V"⟩ ∈ lw_tbl := List.mem_of_getElem? (i := 1019) (by decide +kernel)
theorem wT_d2 : Cond.declares ⟨"java/lang/Exception", "<init>", "()V"⟩ ∈ lw_tbl := List.mem_of_getElem? (i := 1021) (by decide +kernel)
theorem wT_d3 : Cond.declares ⟨"java/lang/Throwable", "<init>", "()V"⟩ ∈ lw_tbl := List.mem_of_getElem? (i := 1023) (by decide +kernel)
theorem wT_ca : Cond.castable NSE NSE ∈ lw_tbl := List.mem_of_getElem? (i := 1018) (by decide +kernel)
theorem at_ok : (vx_at0 "LateBinder" 280 NSE thN).all (fun w => (goodWord w && decide (w ∈ lw_tbl)) || decide (w ∈ zTh)) = true := by decide +kernel
theorem at_ot : (Cond.classLink "LateBinder" 278 NSE :: Cond.initialized NSE :: vx_at0 "LateBinder" 280 NSE thN).all vx_ot = true := by decide +kernel
theorem zTh_ot : zTh.all Cond.onTables = true := by decide +kernel
theorem dLg_24 : decode cLg 24 = .ok (.new 278, 3) := by decide +kernel
theorem dLg_27 : decode cLg 27 = .ok (.dup, 1) := by decide +kernel
theorem dLg_28 : decode cLg 28 = .ok (.invokespecial 280, 3) := by decide +kernel
theorem dLg_31 : decode cLg 31 = .ok (.athrow, 1) := by decide +kernel
theorem dLg_38 : decode cLg 38 = .ok (.invokevirtual 281, 3) := by decide +kernel
theorem dLL_5 : decode cLL 5 = .ok (.invokevirtual 7, 3) := by decide +kernel
theorem dLL_13 : decode cLL 13 = .ok (.astore 4, 2) := by decide +kernel
theorem dLL_15 : decode cLL 15 = .ok (.iconst 1, 1) := by decide +kernel
theorem dLL_16 : decode cLL 16 = .ok (.ireturn, 1) := by decide +kernel
def niv (i : Instr) : Bool := match i with
  | .nop => false
  | .invokestatic _ => false
  | .invokevirtual _ => false
  | .invokespecial _ => false
  | .multianewarray _ _ => false
  | _ => true
theorem opk_dec {own : String} {ini : Bool} {rt : Option FieldType} {cc : ByteArray} {pc : Nat} {op : Op} (h : opk own ini rt cc pc op = true) (hn : niv op.1 = true) : decode cc pc = .ok (op.1, op.2.1 - pc) := by
  obtain ⟨i, n, a, v⟩ := op
  cases i <;> first | (exact Bool.noConfusion (show false = true from hn)) | (unfold opk at h; exact of_decide_eq_true (Bool.and_eq_true_iff.mp h).1)
theorem no_inv {cc : ByteArray} {pc n so x : Nat} {i : Instr} (hd : decode cc pc = .ok (i, n)) (hn : niv i = true) (h3 : decode cc pc = .ok ((if so = 0 then .invokestatic x else if so = 1 then .invokevirtual x else .invokespecial x), 3)) : False := by
  rw [hd] at h3
  have e : i = (if so = 0 then .invokestatic x else if so = 1 then .invokevirtual x else .invokespecial x) := congrArg Prod.fst (Except.ok.inj h3)
  by_cases h0 : so = 0
  · rw [if_pos h0] at e
    rw [e] at hn
    exact Bool.noConfusion (show false = true from hn)
  · rw [if_neg h0] at e
    by_cases h1 : so = 1
    · rw [if_pos h1] at e
      rw [e] at hn
      exact Bool.noConfusion (show false = true from hn)
    · rw [if_neg h1] at e
      rw [e] at hn
      exact Bool.noConfusion (show false = true from hn)
theorem no_mna {cc : ByteArray} {pc n x : Nat} {i : Instr} (hd : decode cc pc = .ok (i, n)) (hn : niv i = true) (h3 : decode cc pc = .ok (.multianewarray x 2, 4)) : False := by
  rw [hd] at h3
  have e : i = .multianewarray x 2 := congrArg Prod.fst (Except.ok.inj h3)
  rw [e] at hn
  exact Bool.noConfusion (show false = true from hn)
theorem zoT {s : Sg} {q c : Nat} {f : Rs} (h1 : q < s.1.1) (h2 : zC q = c) : zobj zC s q c f = f := by
  unfold zobj
  rw [Nat.blt_eq.mpr h1, h2, Nat.beq_refl]
  rfl
section LOG
variable {bs : Nat} {ra : Nat → Nat} {cA : Nat → ClassId} {dC : Nat → ClassId} {dI : Nat → Nat → Nat} {ρ : Nat × (Nat → Int32)} {X : State → Heap → Prop}
variable {p : Program} {l : Launch} {e : Env} {R : Room} {s : State} {m : MethodId} {args : Array Value} {below : List Frame} {meth : Method} {c : Code} {cc : ByteArray} {own : String} {nL : Nat} {Q : State → Prop} {c0 s0 : Nat} {r : List Value × Sg}
/-- one step that goes on in one place -/
theorem Gl_step (F : Fr bs ra cA dC dI ρ X p s m args c cc own nL) (hXa : ∀ U H, X U H → va_AO "LateBinder$Bench" U ∧ va_AO "LateBinder$Key" U) (hac : Cond.arrayClass .int ∈ lw_tbl ∧ Cond.arrayClass .long ∈ lw_tbl ∧ Cond.arrayClass .byte ∈ lw_tbl) {ini : Bool} {rt : Option FieldType} (hini : ini = true → meth.name = "<init>") {pc : Nat} {op : Op} {xs st : List Value} {σ : Sg}
    (hok : opk own ini rt cc pc op = true) (hnr : isRet op.1 = false) (hni : niv op.1 = true) (hsz : s.heap.size ≤ bs + c0) {n : Nat} {ys t : List Value} {τ : Sg} (hR : τ.1.1 + τ.1.2.1 ≤ R.cells + c0 ∧ τ.1.2.2 ≤ R.slots + s0) (hRs : τ.1.2.2 ≤ 60000000)
    (hs : ∀ k : Kn, stp zC zN ρ (fun _ _ _ => none) mL op xs st σ k = k n ys t τ) (hG : Gl bs ra cA dC dI p l e R s m args below meth c nL Q c0 s0 n ys t τ) : Gl bs ra cA dC dI p l e R s m args below meth c nL Q c0 s0 pc xs st σ := by
  have hd := opk_dec hok hni
  have hAO := hXa s s.heap F.2.2.2.2.2.2.1.2.2.2.2.2
  refine snd_step (k := fun n' ys' t' τ' => @ite _ (n' = n ∧ ys' = ys ∧ t' = t ∧ τ' = τ) (Classical.propDecidable _) (some (([] : List Value), τ)) none) (r := ([], τ)) (call := fun _ _ _ => none) F hini hok hnr hR hsz hRs hAO hac ?_ ?_ ?_ ?_ ?_
  · intro n' ys' t' τ' h
    obtain ⟨⟨-, -, -, rfl⟩, -⟩ := ite_i h
    exact leS.rf _
  · intro n' ys' t' τ' _ h
    obtain ⟨⟨rfl, rfl, rfl, rfl⟩, -⟩ := ite_i h
    exact hG
  · intro so x a h1 _ h3 _
    exact (no_inv hd hni h3).elim
  · intro x w _ h3 _
    exact (no_mna hd hni h3).elim
  · rw [hs]
    exact if_pos ⟨rfl, rfl, rfl, rfl⟩
/-- a run of a method that calls nothing -/
theorem run_nc (F : Fr bs ra cA dC dI ρ X p s m args c cc own nL) (hXa : ∀ U H, X U H → va_AO "LateBinder$Bench" U ∧ va_AO "LateBinder$Key" U) (hac : Cond.arrayClass .int ∈ lw_tbl ∧ Cond.arrayClass .long ∈ lw_tbl ∧ Cond.arrayClass .byte ∈ lw_tbl)
    {ini : Bool} {rt : Option FieldType} (hini : ini = true → meth.name = "<init>") {mi : Nat} {call : Nat → List Value → Sg → Rs} (hcl : ∀ mi xs s q, call mi xs s = some q → leS s q.2) (hok : ∀ pc, opk own ini rt cc pc (tab mi pc) = true) (hnc : ∀ pc, niv (tab mi pc).1 = true ∨ (tab mi pc).1 = .nop)
    (hsz : s.heap.size ≤ bs + c0) (hR : r.2.1.1 + r.2.1.2.1 ≤ R.cells + c0 ∧ r.2.1.2.2 ≤ R.slots + s0) (hRs : r.2.1.2.2 ≤ 60000000)
    (hret : ∀ (pc : Nat) (xs st : List Value) (σ : Sg) (k : Kn), isRet (tab mi pc).1 = true → stp zC zN ρ call mL (tab mi pc) xs st σ k = some r → Gl bs ra cA dC dI p l e R s m args below meth c nL Q c0 s0 pc xs st σ) :
    ∀ (f pc : Nat) (xs st : List Value) (σ : Sg), rn ρ call mi f pc xs st σ = some r → Gl bs ra cA dC dI p l e R s m args below meth c nL Q c0 s0 pc xs st σ := by
  intro f
  induction f with
  | zero => intro pc xs st σ h; cases h
  | succ f ih =>
    intro pc xs st σ h
    rw [rn_succ] at h
    have hk1 : ∀ n ys t τ, rn ρ call mi f n (kk mi n ys) t τ = some r → leS τ r.2 := fun n ys t τ hh => rn_leS ρ call mi hcl f n _ t τ hh
    have hk : ∀ n ys t τ, leS σ τ → rn ρ call mi f n (kk mi n ys) t τ = some r → Gl bs ra cA dC dI p l e R s m args below meth c nL Q c0 s0 n ys t τ := fun n ys t τ _ hh ls H locs cells slots h1 h2 h3 h4 h5 h6 =>
      ih n (kk mi n ys) t τ hh ls H locs cells slots h1 (lcO_kk h2) h3 h4 h5 h6
    cases hr : isRet (tab mi pc).1 with
    | true => exact hret pc xs st σ _ hr h
    | false =>
      have hAO := hXa s s.heap F.2.2.2.2.2.2.1.2.2.2.2.2
      rcases hnc pc with hni | hnop
      · have hd := opk_dec (hok pc) hni
        exact snd_step F hini (hok pc) hr hR hsz hRs hAO hac hk1 hk (fun so x a _ _ h3 _ => (no_inv hd hni h3).elim) (fun x w _ h3 _ => (no_mna hd hni h3).elim) h
      · exfalso
        revert h hnop
        generalize tab mi pc = op
        obtain ⟨i, n, a, v⟩ := op
        intro h hnop
        have hnop : i = .nop := hnop
        subst hnop
        cases h
theorem nc_118 : (List.range (zln 118)).all (fun p => niv (tab 118 p).1 || (match (tab 118 p).1 with | .nop => true | _ => false)) = true := by decide +kernel
theorem nc_jc : ∀ pc, niv (tab 118 pc).1 = true ∨ (tab 118 pc).1 = .nop := by
  intro pc
  by_cases hp : pc < zln 118
  · have h := List.all_eq_true.mp nc_118 pc (List.mem_range.mpr hp)
    rw [Bool.or_eq_true] at h
    rcases h with h | h
    · exact .inl h
    · right
      revert h
      cases (tab 118 pc).1 <;> intro h <;> first | rfl | (exact Bool.noConfusion (show false = true from h))
  · rw [tab_out hp]
    exact .inr rfl
theorem ent_lc {as : List Value} {n : Nat} {ls : Array Slot} (has : ∀ v ∈ as, isL v = true) (hlen : (zlay as).length ≤ n) (hl : lv_has ls n (lv_args 0 (as.map (trV bs ra)))) : lcO bs ra n (zpad n (zlay as)) ls := by
  refine lcO.of hl (by unfold zpad; rw [List.length_append, List.length_replicate]; omega) (fun j v hv hL => ?_)
  refine zlay_args as 0 (n - (zlay as).length) has ?_
  exact zlv_mem.mpr ⟨j, v, hv, (Nat.zero_add _).symm, hL, rfl⟩
/-- the room of a callee -/
def rmL (f n : Nat) (σ τ : Sg) : Room := { frames := f, cells := mcE σ τ, slots := msE σ τ, locals := n }
set_option maxHeartbeats 2000000 in
theorem jc_met (hX : Xst bs X) (hXa : ∀ U H, X U H → va_AO "LateBinder$Bench" U ∧ va_AO "LateBinder$Key" U) (hac : Cond.arrayClass .int ∈ lw_tbl ∧ Cond.arrayClass .long ∈ lw_tbl ∧ Cond.arrayClass .byte ∈ lw_tbl) {d : Nat} {as rv : List Value} {σ τ : Sg} (has : ∀ v ∈ as, isL v = true) (hlen : (zlay as).length ≤ mL 118) (hnc : σ.1.1 ≤ NC) (hRs : τ.1.2.2 ≤ 60000000)
    (h : EV ρ d 118 0 (zpad (mL 118) (zlay as)) [] σ = some (rv, τ)) : leS σ τ ∧ Met l (yM 118) (wsM 118) (rmL 2 60 σ τ) (PreE bs ra cA dC dI ρ X as σ) (PostE bs ra cA dC dI rv τ) (mcE σ τ) (msE σ τ) (zA bs) := by
  have hle : leS σ τ := EV_leS ρ _ _ _ _ _ _ h
  refine ⟨hle, ?_⟩
  rcases d with _ | d
  · cases h
  obtain ⟨f, hf⟩ := EV_some.mp h
  have hmi : 118 < nM := by decide
  have hmk := hmok_all 118 hmi (by decide) (by decide)
  unfold mokb at hmk
  simp only [Bool.and_eq_true, decide_eq_true_eq] at hmk
  obtain ⟨w1, w2, hpl, hcl, hmL, -⟩ := hmk
  refine Met.ofW (cc := cM 118) (maxL := mL 118) (ret := rM 118) hpl rfl ?_
  intro p e s m args below meth c s₁ B hml hv
  obtain ⟨rfl, hP, hK, hST, hbs, hsz⟩ := hv
  have hx := B.exec
  have hb := B.bytes
  have hr := B.returns
  have hts0 := atoms_spec (ws := wsM 118) B.pre
  have hts : ∀ w ∈ lw_gd, w.before (as.map (trV bs ra)).toArray s = true := fun w hw => hts0 w (List.mem_cons_of_mem _ hw)
  have hown : s.vm.findClass (yM 118).cls = some m.cls := findClass_of_methodNamed B.named
  have hlocks := B.notSynchronized
  have hin : meth.name = (yM 118).name := (name_of_methodNamed B.named B.method).1
  have hl := lv_entry (as.map (trV bs ra)) (n := mL 118) (by rw [lg_len as has]; exact hlen)
  rw [lg_entry_eq]
  generalize (lg_sl (as.map (trV bs ra)) ++ List.replicate (mL 118 - (lg_sl (as.map (trV bs ra))).length) Slot.unset).toArray = ls at hl ⊢
  have F : Fr bs ra cA dC dI ρ X p s m (as.map (trV bs ra)).toArray c (cM 118) (yM 118).cls (mL 118) := ⟨hx, hb, hml, hown, hts, hK, hST, hbs⟩
  have hlc := ent_lc has hlen hl
  have hmc : mcE σ τ + (σ.1.1 + σ.1.2.1) = τ.1.1 + τ.1.2.1 := by
    unfold mcE
    have := hle.1
    omega
  have hms : msE σ τ + σ.1.2.2 = τ.1.2.2 := by
    unfold msE
    have := hle.2.1
    omega
  exact run_nc (R := rmL 2 60 σ τ) (c0 := σ.1.1 + σ.1.2.1) (s0 := σ.1.2.2) (r := (rv, τ)) F hXa hac (ini := decide ((yM 118).name = "<init>")) (rt := rM 118) (fun z => by rw [hin]; exact of_decide_eq_true z) (fun mi' xs' s' q hq => EV_leS ρ _ _ _ _ _ _ hq) (hck_all 118 hmi) nc_jc hsz ⟨by show τ.1.1 + τ.1.2.1 ≤ mcE σ τ + _; omega, by show τ.1.2.2 ≤ msE σ τ + _; omega⟩ hRs (fun pc xs st σ' k h1 h2 => ret_met F hr hlocks (hck_all 118 hmi pc) h1 hmc hms h2) f 0 _ [] σ hf ls s.heap [] 0 0 hnc hlc hP va_S.rf (Nat.zero_add _) (Nat.zero_add _)
theorem call_w (F : Fr bs ra cA dC dI ρ X p s m args c cc own nL) {y : MethodName} {bytes : ByteArray} {maxL mc ms n x : Nat} {ret : Option FieldType} {rm : Room} {C : String} (hkc : Cond.code y bytes maxL ret ∈ lw_tbl) (hin : Cond.instanceMethod y ∈ lw_tbl) (hse : Cond.selects C y y ∈ lw_tbl) (hini : Cond.initialized y.cls ∈ lw_tbl) (hli : Cond.methodLink own x y ∈ lw_tbl) (hcl : y.cls ≠ "java/lang/invoke/MethodHandle" ∧ y.cls ≠ "java/lang/invoke/VarHandle") (hnp : npk y n = true)
    (hrc : rm.cells = mc) (hrs : rm.slots = ms) (hfr : rm.frames + 1 ≤ R.frames) (hlo : 8 + (maxL + 11) + rm.locals ≤ R.locals) : CallW R s args own C x y bytes maxL ret (Cond.code y bytes maxL ret :: lw_gd) rm mc ms n := by
  obtain ⟨hx, hb, hml, hown, hts, hK, hST, hbs⟩ := F
  refine ⟨⟨hrc, hrs, hfr, hlo, gd_pay hkc hts, List.mem_cons_self, hts _ (gd_in hkc rfl), hts _ (gd_in hini rfl), hcl, fun sig hs => ?_, hts _ (gd_in hli rfl)⟩, hts _ (gd_in hin rfl), hts _ (gd_in hse rfl)⟩
  have h2 := of_decide_eq_true hnp
  rw [hs] at h2
  exact (Option.some.inj h2).symm
theorem pre_v (F : Fr bs ra cA dC dI ρ X p s m args c cc own nL) (hX : Xst bs X) {C : String} {cN q cells : Nat} {r0 : vw_C} {as : List Value} {σ : Sg} {H : Heap} {locs : List Loc} (hcN : clz[cN]? = some r0) (hC : r0.1 = C) (hq : q < σ.1.1) (hqc : zC q = cN) (hnc : σ.1.1 ≤ NC) (hP : va_P (dC, dI) clz (wsO bs ra cA σ) H) (hS : va_S (zA bs) s.heap H locs) (hc : cells + c0 = σ.1.1 + σ.1.2.1) (hsz : s.heap.size ≤ bs + c0) (hz : H.size ≤ s.heap.size + cells) :
    PreV s H C (bs + q) (PreE bs ra cA dC dI ρ X (.ref q :: as) σ) (as.map (trV bs ra)) := by
  obtain ⟨hx, hb, hml, hown, hts, hK, hST, hbs⟩ := F
  have hc9 : cN < 9 := by simpa using (List.getElem?_eq_some_iff.mp hcN).1
  refine ⟨PreE_blind hX _ _, ?_, fun U hU hW => ⟨?_, by rw [hU]; exact hP, va_K.moved hW.alike hK, by rw [hU]; exact STt.to hX hbs hW hS hST, by rw [hU]; exact Nat.le_trans hbs hS.1, by rw [hU]; omega⟩⟩
  · rw [← hC]
    exact va_recv (q0 := q) hK hP hcN (by rw [wsO_get hq, cel_obj hqc (by omega)])
  · show (Value.ref (bs + q) :: as.map (trV bs ra)).toArray = (Value.ref (trN bs ra q) :: as.map (trV bs ra)).toArray
    rw [trN_lt (nc1000 (Nat.lt_of_lt_of_le hq hnc))]
end LOG
