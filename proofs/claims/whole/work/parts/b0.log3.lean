-- LOG, the law's: its contract in both cases; LogOK
section LOG3
variable {bs : Nat} {ra : Nat → Nat} {cA : Nat → ClassId} {dC : Nat → ClassId} {dI : Nat → Nat → Nat} {ρ : Nat × (Nat → Int32)} {X : State → Heap → Prop}
variable {p : Program} {l : Launch} {e : Env} {R : Room} {s : State} {m : MethodId} {args : Array Value} {below : List Frame} {meth : Method} {c : Code} {cc : ByteArray} {own : String} {nL : Nat} {Q : State → Prop} {c0 s0 : Nat} {r : List Value × Sg}
theorem zN_21 : ∀ k, k < NC → zC k = 21 → 0 < zN k := by decide +kernel
abbrev wLL : List Cond := Cond.codeWith yLL cLL 5 (some .int) hLL :: lw_gd
set_option maxHeartbeats 4000000 in
theorem ll_in (hX : Xst bs X) (hXa : ∀ U H, X U H → va_AO "LateBinder$Bench" U ∧ va_AO "LateBinder$Key" U) (hac : Cond.arrayClass .int ∈ lw_tbl ∧ Cond.arrayClass .long ∈ lw_tbl ∧ Cond.arrayClass .byte ∈ lw_tbl) {σ τ : Sg} {q j o : Nat} {i h x : Int32} (hL : LgP σ q j) (hle : leS σ τ) (ho : o < τ.1.1) (hoc : zC o = 21) (hRs : τ.1.2.2 ≤ 60000000)
    (hM : Met l yLg (Cond.code yLg cLg 3 (some .int) :: lw_gd) (rmL 4 160 σ τ) (PreE bs ra cA dC dI ρ X [.ref q, .int i, .int h] σ) (PostE bs ra cA dC dI [.int x] τ) (mcE σ τ) (msE σ τ) (zA bs)) :
    Met l yLL wLL (rmL 8 300 σ τ) (PreE bs ra cA dC dI ρ X [.ref q, .int i, .int h, .ref o] σ) (PostE bs ra cA dC dI [.int 0] (τ.1, τ.2.1, τ.2.2.1, τ.2.2.2.1, z2 τ.2.2.2.2 o 0 x.toInt64)) (mcE σ τ) (msE σ τ) (zA bs) := by
  obtain ⟨hq, hqc, hj, hj1, hjc, hnc0, hRs0⟩ := hL
  refine va_MetW (cc := cLL) (maxL := 5) (ret := some .int) (hh := hLL) (by decide) rfl ?_
  intro p e s m args below meth c s₁ B hml hv
  obtain ⟨rfl, hP, hK, hST, hbs, hsz⟩ := hv
  have hx := B.exec
  have hb := B.bytes
  have hr := B.returns
  have hts0 := atoms_spec (ws := wLL) B.pre
  have hts : ∀ w ∈ lw_gd, w.before (([Value.ref q, .int i, .int h, .ref o] : List Value).map (trV bs ra)).toArray s = true := fun w hw => hts0 w (List.mem_cons_of_mem _ hw)
  have hown : s.vm.findClass "LateBinderLaw" = some m.cls := findClass_of_methodNamed B.named
  have hlocks := B.notSynchronized
  have hl := lv_entry (([Value.ref q, .int i, .int h, .ref o] : List Value).map (trV bs ra)) (n := 5) (Nat.le_of_ble_eq_true rfl)
  rw [lg_entry_eq]
  generalize (lg_sl (([Value.ref q, .int i, .int h, .ref o] : List Value).map (trV bs ra)) ++ List.replicate (5 - (lg_sl (([Value.ref q, .int i, .int h, .ref o] : List Value).map (trV bs ra))).length) Slot.unset).toArray = ls at hl ⊢
  have F : Fr bs ra cA dC dI ρ X p s m (([Value.ref q, .int i, .int h, .ref o] : List Value).map (trV bs ra)).toArray c cLL "LateBinderLaw" 5 := ⟨hx, hb, hml, hown, hts, hK, hST, hbs⟩
  have hlc := ent_lc (bs := bs) (ra := ra) (as := [Value.ref q, .int i, .int h, .ref o]) (n := 5) (List.forall_mem_cons.mpr ⟨rfl, List.forall_mem_cons.mpr ⟨rfl, List.forall_mem_cons.mpr ⟨rfl, List.forall_mem_cons.mpr ⟨rfl, fun _ h => absurd h List.not_mem_nil⟩⟩⟩⟩) (show 4 ≤ 5 from by decide) hl
  have hmc : mcE σ τ + (σ.1.1 + σ.1.2.1) = τ.1.1 + τ.1.2.1 := by
    unfold mcE
    have := hle.1
    omega
  have hms : msE σ τ + σ.1.2.2 = τ.1.2.2 := by
    unfold msE
    have := hle.2.1
    omega
  have go : ∀ {pc : Nat} {op : Op} {st : List Value} {a : Sg} (n : Nat) (t : List Value) (b : Sg), b.1 = σ.1 ∨ b.1 = τ.1 → opk "LateBinderLaw" false (some .int) cLL pc op = true → isRet op.1 = false → niv op.1 = true → (∀ k : Kn, stp zC zN ρ (fun _ _ _ => none) mL op [.ref q, .int i, .int h, .ref o, zU] st a k = k n [.ref q, .int i, .int h, .ref o, zU] t b) →
      Gl bs ra cA dC dI p l e (rmL 8 300 σ τ) s m (([Value.ref q, .int i, .int h, .ref o] : List Value).map (trV bs ra)).toArray below meth c 5 (MQ below (PostE bs ra cA dC dI [.int 0] (τ.1, τ.2.1, τ.2.2.1, τ.2.2.2.1, z2 τ.2.2.2.2 o 0 x.toInt64)) (([Value.ref q, .int i, .int h, .ref o] : List Value).map (trV bs ra)).toArray s (mcE σ τ) (msE σ τ) (zA bs)) (σ.1.1 + σ.1.2.1) σ.1.2.2 n [.ref q, .int i, .int h, .ref o, zU] t b →
      Gl bs ra cA dC dI p l e (rmL 8 300 σ τ) s m (([Value.ref q, .int i, .int h, .ref o] : List Value).map (trV bs ra)).toArray below meth c 5 (MQ below (PostE bs ra cA dC dI [.int 0] (τ.1, τ.2.1, τ.2.2.1, τ.2.2.2.1, z2 τ.2.2.2.2 o 0 x.toInt64)) (([Value.ref q, .int i, .int h, .ref o] : List Value).map (trV bs ra)).toArray s (mcE σ τ) (msE σ τ) (zA bs)) (σ.1.1 + σ.1.2.1) σ.1.2.2 pc [.ref q, .int i, .int h, .ref o, zU] st a :=
    fun n t b hb1 g1 g2 g3 g4 g5 => by
      refine Gl_step F hXa hac (fun z => by cases z) g1 g2 g3 hsz ?_ ?_ g4 g5
      · show b.1.1 + b.1.2.1 ≤ mcE σ τ + (σ.1.1 + σ.1.2.1) ∧ b.1.2.2 ≤ msE σ τ + σ.1.2.2
        rcases hb1 with z | z <;> rw [z] <;> constructor <;> omega
      · rcases hb1 with z | z <;> rw [z]
        · exact hRs0
        · exact hRs
  have hend : Gl bs ra cA dC dI p l e (rmL 8 300 σ τ) s m (([Value.ref q, .int i, .int h, .ref o] : List Value).map (trV bs ra)).toArray below meth c 5 (MQ below (PostE bs ra cA dC dI [.int 0] (τ.1, τ.2.1, τ.2.2.1, τ.2.2.2.1, z2 τ.2.2.2.2 o 0 x.toInt64)) (([Value.ref q, .int i, .int h, .ref o] : List Value).map (trV bs ra)).toArray s (mcE σ τ) (msE σ τ) (zA bs)) (σ.1.1 + σ.1.2.1) σ.1.2.2 18 [.ref q, .int i, .int h, .ref o, zU] [.int 0] (τ.1, τ.2.1, τ.2.2.1, τ.2.2.2.1, z2 τ.2.2.2.2 o 0 x.toInt64) :=
    ret_met (r := ([.int 0], (τ.1, τ.2.1, τ.2.2.1, τ.2.2.2.1, z2 τ.2.2.2.2 o 0 x.toInt64))) (call := fun _ _ _ => none) (k := fun _ _ _ _ => none) (op := (.ireturn, 19, [], nI 0)) (ini := false) F hr hlocks (by decide +kernel) rfl hmc hms rfl
  have h8 : Gl bs ra cA dC dI p l e (rmL 8 300 σ τ) s m (([Value.ref q, .int i, .int h, .ref o] : List Value).map (trV bs ra)).toArray below meth c 5 (MQ below (PostE bs ra cA dC dI [.int 0] (τ.1, τ.2.1, τ.2.2.1, τ.2.2.2.1, z2 τ.2.2.2.2 o 0 x.toInt64)) (([Value.ref q, .int i, .int h, .ref o] : List Value).map (trV bs ra)).toArray s (mcE σ τ) (msE σ τ) (zA bs)) (σ.1.1 + σ.1.2.1) σ.1.2.2 8 [.ref q, .int i, .int h, .ref o, zU] [.int x, .int (nI 0), .ref o] τ := by
    refine go (op := (.i2l, 9, [], nI 0)) 9 [.long x.toInt64, .int (nI 0), .ref o] τ (.inr rfl) (by decide +kernel) rfl rfl (fun k => rfl) ?_
    refine go (op := (.lastore, 10, [], nI 0)) 10 [] (τ.1, τ.2.1, τ.2.2.1, τ.2.2.2.1, z2 τ.2.2.2.2 o 0 x.toInt64) (.inr rfl) (by decide +kernel) rfl rfl (fun k => by
      show zobj zC τ o 21 (zidx (nI 0) (zN o) fun j => k 10 [.ref q, .int i, .int h, .ref o, zU] [] (τ.1, τ.2.1, τ.2.2.1, τ.2.2.2.1, z2 τ.2.2.2.2 o j x.toInt64)) = _
      rw [zoT ho hoc]
      exact if_pos ⟨by decide, zN_21 o (Nat.lt_of_lt_of_le ho (hle.2.2 hnc0)) hoc⟩) ?_
    refine go (op := (.goto 7, 13, [17], nI 0)) 17 [] (τ.1, τ.2.1, τ.2.2.1, τ.2.2.2.1, z2 τ.2.2.2.2 o 0 x.toInt64) (.inr rfl) (by decide +kernel) rfl rfl (fun k => rfl) ?_
    exact go (op := (.iconst 0, 18, [], nI 0)) 18 [.int (nI 0)] (τ.1, τ.2.1, τ.2.2.1, τ.2.2.2.1, z2 τ.2.2.2.2 o 0 x.toInt64) (.inr rfl) (by decide +kernel) rfl rfl (fun k => rfl) hend
  have hcal : Gl bs ra cA dC dI p l e (rmL 8 300 σ τ) s m (([Value.ref q, .int i, .int h, .ref o] : List Value).map (trV bs ra)).toArray below meth c 5 (MQ below (PostE bs ra cA dC dI [.int 0] (τ.1, τ.2.1, τ.2.2.1, τ.2.2.2.1, z2 τ.2.2.2.2 o 0 x.toInt64)) (([Value.ref q, .int i, .int h, .ref o] : List Value).map (trV bs ra)).toArray s (mcE σ τ) (msE σ τ) (zA bs)) (σ.1.1 + σ.1.2.1) σ.1.2.2 5 [.ref q, .int i, .int h, .ref o, zU] [.int h, .int i, .ref q, .int (nI 0), .ref o] σ := by
    intro ls H locs cells slots hnc hl hP hS hc hs
    refine W_size fun hz => ?_
    have hrun := va_runV (l := l) (e := e) (below := below) (meth := meth) (locs := locs) (cells := cells) (slots := slots) (R := rmL 8 300 σ τ) (g := F0 m 5 ls ([Value.int h, .int i, .ref q, .int (nI 0), .ref o].map (trV bs ra))) (rest := [Value.int (nI 0), .ref o].map (trV bs ra)) ⟨hx, hb, hml, hown, hts⟩ hM (call_w F wL_code wL_ins wL_sel wL_ini wL_lnk (by decide) (n := 2) (by decide +kernel) rfl rfl (show 4 + 1 ≤ 8 from by decide) (show 8 + (3 + 11) + 160 ≤ 300 from by decide)) (pre_v (as := [.int i, .int h]) F hX (cN := 7) rfl rfl hq hqc hnc hP hS hc hsz hz) rfl rfl hl.2.1 (by
      show [Value.int h, .int i, .ref (trN bs ra q), .int (nI 0), .ref (trN bs ra o)] = _
      rw [trN_lt (nc1000 (Nat.lt_of_lt_of_le hq hnc))]
      rfl) (show 2 * 0 + 2 ≤ 8 from by decide) dLL_5 ⟨by show cells + mcE σ τ ≤ mcE σ τ; omega, by show slots + msE σ τ ≤ msE σ τ; omega⟩
    refine call_go hrun hS (fun H1 locs1 hP1 hS1 => ?_)
    exact h8 ls H1 locs1 _ _ (hle.2.2 hnc) hl hP1 hS1 (by omega) (by omega)
  refine (?_ : Gl bs ra cA dC dI p l e (rmL 8 300 σ τ) s m (([Value.ref q, .int i, .int h, .ref o] : List Value).map (trV bs ra)).toArray below meth c 5 (MQ below (PostE bs ra cA dC dI [.int 0] (τ.1, τ.2.1, τ.2.2.1, τ.2.2.2.1, z2 τ.2.2.2.2 o 0 x.toInt64)) (([Value.ref q, .int i, .int h, .ref o] : List Value).map (trV bs ra)).toArray s (mcE σ τ) (msE σ τ) (zA bs)) (σ.1.1 + σ.1.2.1) σ.1.2.2 0 [.ref q, .int i, .int h, .ref o, zU] [] σ) ls s.heap [] 0 0 hnc0 hlc hP va_S.rf (Nat.zero_add _) (Nat.zero_add _)
  refine go (op := (.aload_n 3, 1, [3], nI 0)) 1 [.ref o] σ (.inl rfl) (by decide +kernel) rfl rfl (fun k => rfl) ?_
  refine go (op := (.iconst 0, 2, [], nI 0)) 2 [.int (nI 0), .ref o] σ (.inl rfl) (by decide +kernel) rfl rfl (fun k => rfl) ?_
  refine go (op := (.aload_n 0, 3, [0], nI 0)) 3 [.ref q, .int (nI 0), .ref o] σ (.inl rfl) (by decide +kernel) rfl rfl (fun k => rfl) ?_
  refine go (op := (.iload_n 1, 4, [1], nI 0)) 4 [.int i, .ref q, .int (nI 0), .ref o] σ (.inl rfl) (by decide +kernel) rfl rfl (fun k => rfl) ?_
  refine go (op := (.iload_n 2, 5, [2], nI 0)) 5 [.int h, .int i, .ref q, .int (nI 0), .ref o] σ (.inl rfl) (by decide +kernel) rfl rfl (fun k => rfl) ?_
  exact hcal
set_option maxHeartbeats 4000000 in
theorem ll_out (hX : Xst bs X) (hXa : ∀ U H, X U H → va_AO "LateBinder$Bench" U ∧ va_AO "LateBinder$Key" U) (hXt : ∀ U H, X U H → XTh bs U H) (hac : Cond.arrayClass .int ∈ lw_tbl ∧ Cond.arrayClass .long ∈ lw_tbl ∧ Cond.arrayClass .byte ∈ lw_tbl) {σ : Sg} {q j o : Nat} {i h : Int32} (hL : LgP σ q j)
    (hM : vx_Met l yLg (Cond.code yLg cLg 3 (some .int) :: lw_gd) { frames := 6, cells := 1, slots := 6, locals := 160 } (PreE bs ra cA dC dI ρ X [.ref q, .int i, .int h] σ) (QLg bs) (XLg bs ra cA dC dI σ) 1 6 (zA bs)) :
    Met l yLL wLL { frames := 8, cells := 1, slots := 6, locals := 300 } (PreE bs ra cA dC dI ρ X [.ref q, .int i, .int h, .ref o] σ) (PostE bs ra cA dC dI [.int 1] ((σ.1.1, σ.1.2.1 + 1, σ.1.2.2 + 6), σ.2)) 1 6 (zA bs) := by
  obtain ⟨hq, hqc, hj, hj1, hjc, hnc0, hRs0⟩ := hL
  refine va_MetW (cc := cLL) (maxL := 5) (ret := some .int) (hh := hLL) (by decide) rfl ?_
  intro p e s m args below meth c s₁ B hml hv
  obtain ⟨rfl, hP, hK, hST, hbs, hsz⟩ := hv
  have hx := B.exec
  have hb := B.bytes
  have hr := B.returns
  have hts0 := atoms_spec (ws := wLL) B.pre
  have htb : c.exceptionTable.toList = tableOf hLL := vx_table (x := yLL) B (hts0 _ List.mem_cons_self)
  have hts : ∀ w ∈ lw_gd, w.before (([Value.ref q, .int i, .int h, .ref o] : List Value).map (trV bs ra)).toArray s = true := fun w hw => hts0 w (List.mem_cons_of_mem _ hw)
  have hown : s.vm.findClass "LateBinderLaw" = some m.cls := findClass_of_methodNamed B.named
  have hlocks := B.notSynchronized
  obtain ⟨hNw, -, -⟩ := hXt _ _ hST.2.2.2.2.2
  have hl := lv_entry (([Value.ref q, .int i, .int h, .ref o] : List Value).map (trV bs ra)) (n := 5) (Nat.le_of_ble_eq_true rfl)
  rw [lg_entry_eq]
  generalize (lg_sl (([Value.ref q, .int i, .int h, .ref o] : List Value).map (trV bs ra)) ++ List.replicate (5 - (lg_sl (([Value.ref q, .int i, .int h, .ref o] : List Value).map (trV bs ra))).length) Slot.unset).toArray = ls at hl ⊢
  have F : Fr bs ra cA dC dI ρ X p s m (([Value.ref q, .int i, .int h, .ref o] : List Value).map (trV bs ra)).toArray c cLL "LateBinderLaw" 5 := ⟨hx, hb, hml, hown, hts, hK, hST, hbs⟩
  have hlc := ent_lc (bs := bs) (ra := ra) (as := [Value.ref q, .int i, .int h, .ref o]) (n := 5) (List.forall_mem_cons.mpr ⟨rfl, List.forall_mem_cons.mpr ⟨rfl, List.forall_mem_cons.mpr ⟨rfl, List.forall_mem_cons.mpr ⟨rfl, fun _ h => absurd h List.not_mem_nil⟩⟩⟩⟩) (show 4 ≤ 5 from by decide) hl
  have go : ∀ {pc : Nat} {op : Op} {st : List Value} (n : Nat) (t : List Value), opk "LateBinderLaw" false (some .int) cLL pc op = true → isRet op.1 = false → niv op.1 = true → (∀ k : Kn, stp zC zN ρ (fun _ _ _ => none) mL op [.ref q, .int i, .int h, .ref o, zU] st σ k = k n [.ref q, .int i, .int h, .ref o, zU] t σ) →
      Gl bs ra cA dC dI p l e { frames := 8, cells := 1, slots := 6, locals := 300 } s m (([Value.ref q, .int i, .int h, .ref o] : List Value).map (trV bs ra)).toArray below meth c 5 (MQ below (PostE bs ra cA dC dI [.int 1] ((σ.1.1, σ.1.2.1 + 1, σ.1.2.2 + 6), σ.2)) (([Value.ref q, .int i, .int h, .ref o] : List Value).map (trV bs ra)).toArray s 1 6 (zA bs)) (σ.1.1 + σ.1.2.1) σ.1.2.2 n [.ref q, .int i, .int h, .ref o, zU] t σ →
      Gl bs ra cA dC dI p l e { frames := 8, cells := 1, slots := 6, locals := 300 } s m (([Value.ref q, .int i, .int h, .ref o] : List Value).map (trV bs ra)).toArray below meth c 5 (MQ below (PostE bs ra cA dC dI [.int 1] ((σ.1.1, σ.1.2.1 + 1, σ.1.2.2 + 6), σ.2)) (([Value.ref q, .int i, .int h, .ref o] : List Value).map (trV bs ra)).toArray s 1 6 (zA bs)) (σ.1.1 + σ.1.2.1) σ.1.2.2 pc [.ref q, .int i, .int h, .ref o, zU] st σ :=
    fun n t g1 g2 g3 g4 g5 => Gl_step F hXa hac (fun z => by cases z) g1 g2 g3 hsz ⟨by omega, by omega⟩ hRs0 g4 g5
  have hcal : Gl bs ra cA dC dI p l e { frames := 8, cells := 1, slots := 6, locals := 300 } s m (([Value.ref q, .int i, .int h, .ref o] : List Value).map (trV bs ra)).toArray below meth c 5 (MQ below (PostE bs ra cA dC dI [.int 1] ((σ.1.1, σ.1.2.1 + 1, σ.1.2.2 + 6), σ.2)) (([Value.ref q, .int i, .int h, .ref o] : List Value).map (trV bs ra)).toArray s 1 6 (zA bs)) (σ.1.1 + σ.1.2.1) σ.1.2.2 5 [.ref q, .int i, .int h, .ref o, zU] [.int h, .int i, .ref q, .int (nI 0), .ref o] σ := by
    intro ls H locs cells slots hnc hl hP hS hc hs
    have ec : cells = 0 := by omega
    have es : slots = 0 := by omega
    subst ec; subst es
    refine W_size fun hz => ?_
    have hrun := vx_runV (l := l) (e := e) (below := below) (meth := meth) (locs := locs) (cells := 0) (slots := 0) (R := { frames := 8, cells := 1, slots := 6, locals := 300 }) (g := F0 m 5 ls ([Value.int h, .int i, .ref q, .int (nI 0), .ref o].map (trV bs ra))) (rest := [Value.int (nI 0), .ref o].map (trV bs ra)) ⟨hx, hb, hml, hown, hts⟩ hM (call_w F wL_code wL_ins wL_sel wL_ini wL_lnk (by decide) (n := 2) (by decide +kernel) rfl rfl (by decide) (by decide)) (pre_v (as := [.int i, .int h]) F hX (cN := 7) rfl rfl hq hqc hnc hP hS hc hsz hz) rfl rfl hl.2.1 (by
      show [Value.int h, .int i, .ref (trN bs ra q), .int (nI 0), .ref (trN bs ra o)] = _
      rw [trN_lt (nc1000 (Nat.lt_of_lt_of_le hq hnc))]
      rfl) (show 2 * 0 + 2 ≤ 8 from by decide) dLL_5 ⟨by decide, by decide⟩
    refine vx_calli hrun hS (fun _ _ z => z) (fun _ z => z) (fun _ _ z => z) ?_ (fun r u t H1 locs1 _ _ z => z.elim)
    intro E ce q9 u t H1 locs1 ht hal _ hBX hsz1 hkp hS1 hce hcv hcl9
    obtain ⟨rfl, hP1⟩ := hBX
    refine vx_catch (own := "LateBinderLaw") (name := NSE) (E := NSE) (ce := ce) hown [] ⟨0, 10, 13, 13⟩ [] (by rw [htb]; rfl) (fun z hz => by cases hz) (by decide) (by decide) (hts _ (gd_in wLL_cl rfl)) (va_Nw.use rfl (hNw _ (by simp [zTh]))) hce hcv hcl9 ?_
    refine lv_astore hx hb dLL_13 hl.2 (by decide) rfl (fun ls2 hl2 => ?_)
    refine lv_iconst (v := 1) hx hb dLL_15 (by decide) ?_
    refine W.iret hx hb hr (fun t2 ht2 hW2 => ⟨rfl, ?_, hS1.F ht2⟩) hS1.2.2 dLL_16 hlocks
    rw [ht2, ← ht]
    exact hP1
  refine (?_ : Gl bs ra cA dC dI p l e { frames := 8, cells := 1, slots := 6, locals := 300 } s m (([Value.ref q, .int i, .int h, .ref o] : List Value).map (trV bs ra)).toArray below meth c 5 (MQ below (PostE bs ra cA dC dI [.int 1] ((σ.1.1, σ.1.2.1 + 1, σ.1.2.2 + 6), σ.2)) (([Value.ref q, .int i, .int h, .ref o] : List Value).map (trV bs ra)).toArray s 1 6 (zA bs)) (σ.1.1 + σ.1.2.1) σ.1.2.2 0 [.ref q, .int i, .int h, .ref o, zU] [] σ) ls s.heap [] 0 0 hnc0 hlc hP va_S.rf (Nat.zero_add _) (Nat.zero_add _)
  refine go (op := (.aload_n 3, 1, [3], nI 0)) 1 [.ref o] (by decide +kernel) rfl rfl (fun k => rfl) ?_
  refine go (op := (.iconst 0, 2, [], nI 0)) 2 [.int (nI 0), .ref o] (by decide +kernel) rfl rfl (fun k => rfl) ?_
  refine go (op := (.aload_n 0, 3, [0], nI 0)) 3 [.ref q, .int (nI 0), .ref o] (by decide +kernel) rfl rfl (fun k => rfl) ?_
  refine go (op := (.iload_n 1, 4, [1], nI 0)) 4 [.int i, .ref q, .int (nI 0), .ref o] (by decide +kernel) rfl rfl (fun k => rfl) ?_
  refine go (op := (.iload_n 2, 5, [2], nI 0)) 5 [.int h, .int i, .ref q, .int (nI 0), .ref o] (by decide +kernel) rfl rfl (fun k => rfl) ?_
  exact hcal
/-- the law's log, called -/
theorem log_call (F : Fr bs ra cA dC dI ρ X p s m args c cc own nL) (hX : Xst bs X) {d pc x : Nat} {xs t : List Value} {q o : Nat} {i h v : Int32} {σ τ : Sg} (hRd : d + 11 ≤ R.frames ∧ 60 * d + 649 ≤ R.locals) (hsz : s.heap.size ≤ bs + c0) (hle : leS σ τ) (hR : τ.1.1 + τ.1.2.1 ≤ R.cells + c0 ∧ τ.1.2.2 ≤ R.slots + s0)
    (hM : Met l yLL wLL (rmL 8 300 σ τ) (PreE bs ra cA dC dI ρ X [.ref q, .int i, .int h, .ref o] σ) (PostE bs ra cA dC dI [.int v] τ) (mcE σ τ) (msE σ τ) (zA bs)) (hli : Cond.methodLink own x yLL ∈ lw_tbl) (hd : decode cc pc = .ok (.invokestatic x, 3)) (hzo : zok t = true)
    (hG : Gl bs ra cA dC dI p l e R s m args below meth c nL Q c0 s0 (pc + 3) xs (.int v :: t) τ) : Gl bs ra cA dC dI p l e R s m args below meth c nL Q c0 s0 pc xs (.ref o :: .int h :: .int i :: .ref q :: t) σ := by
  obtain ⟨hx, hb, hml, hown, hts, hK, hST, hbs⟩ := F
  intro ls H locs cells slots hnc hl hP hS hc hs
  refine W_size fun hz => ?_
  have hle1 := hle.1
  have hle2 := hle.2.1
  have hpay : ∀ w ∈ wLL, ∀ (a' : Array Value) (U : State), s.WarmedH U.vm → w.before a' U = true := by
    refine pay_in hts (fun w hw => ?_)
    have hg : w ∈ lw_gd := by
      rcases List.mem_cons.mp hw with rfl | hw
      · exact gd_in wLL_code rfl
      · exact hw
    exact ⟨hg, good_of_word (List.mem_filter.mp hg).2⟩
  have hrun : va_Run p l e R s m args below meth c H locs cells slots (mcE σ τ) (msE σ τ) (F0 m pc ls (([.ref o, .int h, .int i, .ref q] ++ t : List Value).map (trV bs ra))) (t.map (trV bs ra)) (PostE bs ra cA dC dI [.int v] τ (([Value.ref q, .int i, .int h, .ref o] : List Value).map (trV bs ra)).toArray) (zA bs) := by
    refine vx_runSW (hh := hLL) (bytes := cLL) (maxL := 5) (ret := some .int) (n := 4) ⟨hx, hb, hml, hown, hts⟩ hM ⟨⟨rfl, rfl, by show 8 + 1 ≤ R.frames; omega, by show 8 + (5 + 11) + 300 ≤ R.locals; omega, hpay, List.mem_cons_self⟩, hts _ (gd_in wLL_code rfl), hts _ (gd_in wLL_ini rfl), by decide, fun sig hs => ?_, hts _ (gd_in hli rfl), hts _ (gd_in wLL_sta rfl)⟩ ⟨PreE_blind hX _ _, fun U hU hW => ⟨rfl, by rw [hU]; exact hP, va_K.moved hW.alike hK, by rw [hU]; exact STt.to hX hbs hW hS hST, by rw [hU]; exact Nat.le_trans hbs hS.1, by rw [hU]; omega⟩⟩ rfl rfl hl.2.1 ?_ ?_ hd ⟨by unfold mcE; omega, by unfold msE; omega⟩
    · have h2 : npk yLL 4 = true := by decide +kernel
      have h2 := of_decide_eq_true h2
      rw [hs] at h2
      exact (Option.some.inj h2).symm
    · show ([Value.ref o, .int h, .int i, .ref q] ++ t).map (trV bs ra) = _
      rw [List.map_append]
      rfl
    · show 2 * 0 + ((t.map (trV bs ra)).map fun v => v.category).sum ≤ 8
      rw [map_cat]
      have := zok_8 hzo
      omega
  refine call_go hrun hS (fun H1 locs1 hP1 hS1 => ?_)
  exact hG ls H1 locs1 _ _ (hle.2.2 hnc) hl hP1 hS1 (by unfold mcE; omega) (by unfold msE; omega)
/-- the law's log, wherever it is called -/
def LogO (bs : Nat) (ra : Nat → Nat) (cA : Nat → ClassId) (dC : Nat → ClassId) (dI : Nat → Nat → Nat) (ρ : Nat × (Nat → Int32)) (X : State → Heap → Prop) (l : Launch) (d : Nat) (call : Nat → List Value → Sg → Rs) : Prop :=
  ∀ (p : Program) (e : Env) (R : Room) (s : State) (m : MethodId) (args : Array Value) (below : List Frame) (meth : Method) (c : Code) (cc : ByteArray) (own : String) (nL : Nat) (Q : State → Prop) (c0 s0 : Nat) (k : Kn) (r : List Value × Sg) (pc x w : Nat) (xs st : List Value) (σ : Sg),
    Fr bs ra cA dC dI ρ X p s m args c cc own nL → d + 11 ≤ R.frames ∧ 60 * d + 649 ≤ R.locals → s.heap.size ≤ bs + c0 → r.2.1.1 + r.2.1.2.1 ≤ R.cells + c0 ∧ r.2.1.2.2 ≤ R.slots + s0 → r.2.1.2.2 ≤ 60000000 → meth.locks = false →
    (∀ n ys t τ, k n ys t τ = some r → leS τ r.2) → (∀ n ys t τ, leS σ τ → k n ys t τ = some r → Gl bs ra cA dC dI p l e R s m args below meth c nL Q c0 s0 n ys t τ) → lwk w (.methodLink own x ⟨"LateBinderLaw", "log", "(LLateBinder;II[J)I"⟩) = true →
    decode cc pc = .ok (.invokestatic x, 3) → zcal zC zN call mL [8, 118, w, 2, 0, 0, 2] (pc + 3) xs st σ k = some r → Gl bs ra cA dC dI p l e R s m args below meth c nL Q c0 s0 pc xs st σ
set_option maxHeartbeats 2000000 in
theorem prim_ok2 (hX : Xst bs X) (hXk : ∀ U H, X U H → XK bs ra U H) (hXs : ∀ U H, X U H → XS bs ra U H) {d : Nat} {call : Nat → List Value → Sg → Rs} (hlog : LogO bs ra cA dC dI ρ X l d call) : PrimO bs ra cA dC dI ρ X l d call := by
  intro p e R s m args below meth c cc own nL Q c0 s0 k r pc so x kd mi w ks xs st σ F hRd hsz hR hRs hlk hk1 hk h4 hck hd h
  by_cases k4 : kd = 4
  · subst k4
    have hck : (decide (so = 0) && (decide (ks = [0, 0, 2, 0, 2]) && lwk w (.methodLink own x arraycopyName))) = true := hck
    simp only [Bool.and_eq_true, decide_eq_true_eq] at hck
    obtain ⟨rfl, rfl, hw⟩ := hck
    exact snd_cpy F wP_nat wP_sta wP_sys hRd hk hw hd h
  by_cases k5 : kd = 5
  · subst k5
    have hck : (decide (so = 0) && (decide (ks = [1]) && lwk w (.methodLink own x ⟨"LateBinder$Key", "withCode", "(J)LLateBinder$Key;"⟩))) = true := hck
    simp only [Bool.and_eq_true, decide_eq_true_eq] at hck
    obtain ⟨rfl, rfl, hw⟩ := hck
    have h0 : zpop zC σ [1] st [] (fun as t => bif zok t then (match as with
        | [v] => zlon v fun c => k (pc + 3) xs (zr (zkey c) :: t) σ
        | _ => none) else none) = some r := h
    obtain ⟨as, t, rfl, has, h1⟩ := zpop_i h0
    obtain ⟨hzo, h2⟩ := bif_i h1
    rcases as with _ | ⟨v, _ | ⟨u, as⟩⟩
    · exact has.elim
    · obtain ⟨q, rfl⟩ := has.1
      exact snd_one F hX hRd hsz hR (key_met hXk wK_all wK_code q σ) wK_cod wK_sta wK_ini (lwk_m hw) (by decide) (by decide +kernel) (by decide) hk1 hk hd hzo h2
    · exact has.2.elim
  by_cases k6 : kd = 6
  · subst k6
    have hck : (decide (so = 0) && (decide (ks = [2]) && (decide (own = "LateBinderModel") && lwk w (.methodLink own x ⟨"LateBinderModel", "packed", "(Ljava/lang/String;)J"⟩)))) = true := hck
    simp only [Bool.and_eq_true, decide_eq_true_eq] at hck
    obtain ⟨rfl, rfl, -, hw⟩ := hck
    have h0 : zpop zC σ [2] st [] (fun as t => bif zok t then (match as with
        | [v] => zref v fun q => bif Nat.ble 1020 q && Nat.ble q 1029 then k (pc + 3) xs (.long (ztxt q) :: t) σ else none
        | _ => none) else none) = some r := h
    obtain ⟨as, t, rfl, has, h1⟩ := zpop_i h0
    obtain ⟨hzo, h2⟩ := bif_i h1
    rcases as with _ | ⟨v, _ | ⟨u, as⟩⟩
    · exact has.elim
    · obtain ⟨q, rfl⟩ := has.1
      obtain ⟨hq, h3⟩ := bif_i h2
      rw [Bool.and_eq_true] at hq
      have hq1 := Nat.le_of_ble_eq_true hq.1
      have hq2 := Nat.le_of_ble_eq_true hq.2
      obtain ⟨i, rfl⟩ := Nat.exists_eq_add_of_le hq1
      have hi10 : i < 10 := by have h9 : 1020 + i ≤ 1029 := hq2; omega
      exact snd_one F hX hRd hsz hR (mS_packed hXs i hi10 σ) kS_packed tS_packed nS_mod (lwk_m hw) (by decide) (by decide +kernel) (by decide) hk1 hk hd hzo h3
    · exact has.2.elim
  by_cases k7 : kd = 7
  · subst k7
    have hck : (decide (so = 2) && (decide (ks = [2]) && lwk w (.methodLink own x objectInit))) = true := hck
    simp only [Bool.and_eq_true, decide_eq_true_eq] at hck
    obtain ⟨rfl, rfl, hw⟩ := hck
    exact snd_obj F wP_obj wP_obc hRd hk hw hd h
  by_cases k8 : kd = 8
  · subst k8
    have hck : (decide (so = 0) && (decide (ks = [2, 0, 0, 2]) && (decide (mi = 118) && lwk w (.methodLink own x ⟨"LateBinderLaw", "log", "(LLateBinder;II[J)I"⟩)))) = true := hck
    simp only [Bool.and_eq_true, decide_eq_true_eq] at hck
    obtain ⟨rfl, rfl, rfl, hw⟩ := hck
    exact hlog p e R s m args below meth c cc own nL Q c0 s0 k r pc x w xs st σ F hRd hsz hR hRs hlk hk1 hk hw hd h
  · obtain ⟨j, rfl⟩ : ∃ j, kd = j + 9 := ⟨kd - 9, by omega⟩
    have h0 : zpop zC σ ks st [] (fun as t => bif zok t then none else none) = some r := h
    obtain ⟨as, t, rfl, has, h1⟩ := zpop_i h0
    obtain ⟨hzo, h2⟩ := bif_i h1
    cases h2
set_option maxHeartbeats 2000000 in
theorem log_ok (hX : Xst bs X) (hXa : ∀ U H, X U H → va_AO "LateBinder$Bench" U ∧ va_AO "LateBinder$Key" U) (hXt : ∀ U H, X U H → XTh bs U H) (htr : l.stackTraces = false) (hac : Cond.arrayClass .int ∈ lw_tbl ∧ Cond.arrayClass .long ∈ lw_tbl ∧ Cond.arrayClass .byte ∈ lw_tbl) (d : Nat) :
    LogO bs ra cA dC dI ρ X l d (fun mi xs σ => EV ρ d mi 0 xs [] σ) := by
  intro p e R s m args below meth c cc own nL Q c0 s0 k r pc x w xs st σ F hRd hsz hR hRs hlk hk1 hk hw hd h
  have h0 : zpop zC σ [2, 0, 0, 2] st [] (fun as t => bif zok t then (match as with
      | [v, w, x, y] => zref v fun q => zint w fun i => zint x fun h => zref y fun o => zobj zC σ q 7 (zobj zC σ o 21 (match σ.2.1 q 2 with
        | none => none
        | some j => zobj zC σ j 1 (if i < 0 ∨ σ.2.2.2.1 j 3 ≤ i ∨ h < 0 ∨ 2 < h then k (pc + 3) xs (.int 1 :: t) ((σ.1.1, σ.1.2.1 + 1, σ.1.2.2 + 6), σ.2)
          else zcI (EV ρ d 118 0 (zpad (mL 118) [.ref j, .int i, .int h]) [] σ) fun x s => zobj zC s o 21 (k (pc + 3) xs (.int 0 :: t) (s.1, s.2.1, s.2.2.1, s.2.2.2.1, z2 s.2.2.2.2 o 0 x.toInt64)))))
      | _ => none) else none) = some r := h
  obtain ⟨as, t, rfl, has, h1⟩ := zpop_i h0
  obtain ⟨hzo, h2⟩ := bif_i h1
  rcases as with _ | ⟨v0, _ | ⟨v1, _ | ⟨v2, _ | ⟨v3, _ | ⟨v4, as⟩⟩⟩⟩⟩
  · exact has.elim
  · exact has.2.elim
  · exact has.2.2.elim
  · exact has.2.2.2.elim
  case cons.cons.cons.cons.cons => exact has.2.2.2.2.elim
  obtain ⟨⟨o, rfl⟩, ⟨hh, rfl⟩, ⟨i, rfl⟩, ⟨q, rfl⟩, -⟩ := has
  obtain ⟨hq, hqc, h3⟩ := zobj_i h2
  obtain ⟨ho, hoc, h4⟩ := zobj_i h3
  cases hj : σ.2.1 q 2 with
  | none => rw [hj] at h4; cases h4
  | some j =>
    rw [hj] at h4
    obtain ⟨hj1, hjc, h5⟩ := zobj_i h4
    intro ls H locs cells slots hnc hl hP hS hc hs
    refine (?_ : Gl bs ra cA dC dI p l e R s m args below meth c nL Q c0 s0 pc xs (.ref o :: .int hh :: .int i :: .ref q :: t) σ) ls H locs cells slots hnc hl hP hS hc hs
    by_cases hc9 : i < 0 ∨ σ.2.2.2.1 j 3 ≤ i ∨ hh < 0 ∨ 2 < hh
    · rw [if_pos hc9] at h5
      have hle2 := hk1 _ _ _ _ h5
      have hLP : LgP σ q j := ⟨hq, hqc, hj, hj1, hjc, hnc, by have := hle2.2.1; have h9 : σ.1.2.2 + 6 ≤ r.2.1.2.2 := this; omega⟩
      have hM := ll_out (ra := ra) (cA := cA) (dC := dC) (dI := dI) (ρ := ρ) (l := l) (o := o) hX hXa hXt hac hLP (lg_out (l := l) hX hXa hXt htr hac hLP hc9)
      have hle : leS σ ((σ.1.1, σ.1.2.1 + 1, σ.1.2.2 + 6), σ.2) := ⟨by show σ.1.1 + σ.1.2.1 ≤ σ.1.1 + (σ.1.2.1 + 1); omega, by show σ.1.2.2 ≤ σ.1.2.2 + 6; omega, fun z => z⟩
      have e1 : mcE σ ((σ.1.1, σ.1.2.1 + 1, σ.1.2.2 + 6), σ.2) = 1 := by
        show (σ.1.1 + (σ.1.2.1 + 1)) - (σ.1.1 + σ.1.2.1) = 1
        omega
      have e2 : msE σ ((σ.1.1, σ.1.2.1 + 1, σ.1.2.2 + 6), σ.2) = 6 := by
        show (σ.1.2.2 + 6) - σ.1.2.2 = 6
        omega
      have e3 : rmL 8 300 σ ((σ.1.1, σ.1.2.1 + 1, σ.1.2.2 + 6), σ.2) = { frames := 8, cells := 1, slots := 6, locals := 300 } := by
        unfold rmL
        rw [e1, e2]
      refine log_call (τ := ((σ.1.1, σ.1.2.1 + 1, σ.1.2.2 + 6), σ.2)) F hX hRd hsz hle ?_ (by rw [e1, e2, e3]; exact hM) (lwk_m hw) hd hzo (hk _ _ _ _ hle h5)
      have a1 := hle2.1
      have a2 := hle2.2.1
      exact ⟨Nat.le_trans a1 hR.1, Nat.le_trans a2 hR.2⟩
    · rw [if_neg hc9] at h5
      obtain ⟨x', τ, h6, h7⟩ := zcI_i h5
      obtain ⟨ho2, -, h8⟩ := zobj_i h7
      have hle2 := hk1 _ _ _ _ h8
      have hRτ : τ.1.2.2 ≤ 60000000 := Nat.le_trans hle2.2.1 hRs
      obtain ⟨hle, hMj⟩ := jc_met (l := l) (bs := bs) (ra := ra) (cA := cA) (dC := dC) (dI := dI) (ρ := ρ) (X := X) (d := d) (as := [.ref j, .int i, .int hh]) hX hXa hac (List.forall_mem_cons.mpr ⟨rfl, List.forall_mem_cons.mpr ⟨rfl, List.forall_mem_cons.mpr ⟨rfl, fun _ h => absurd h List.not_mem_nil⟩⟩⟩) (show 3 ≤ mL 118 from by decide) hnc hRτ h6
      have hLP : LgP σ q j := ⟨hq, hqc, hj, hj1, hjc, hnc, Nat.le_trans hle.2.1 hRτ⟩
      have hM := ll_in hX hXa hac hLP hle ho2 hoc hRτ (lg_in hX hXa hac hLP hc9 hle hMj)
      have hle3 : leS σ (τ.1, τ.2.1, τ.2.2.1, τ.2.2.2.1, z2 τ.2.2.2.2 o 0 x'.toInt64) := hle
      refine log_call (τ := (τ.1, τ.2.1, τ.2.2.1, τ.2.2.2.1, z2 τ.2.2.2.2 o 0 x'.toInt64)) F hX hRd hsz hle3 ?_ hM (lwk_m hw) hd hzo (hk _ _ _ _ hle3 h8)
      have a1 := hle2.1
      have a2 := hle2.2.1
      exact ⟨Nat.le_trans a1 hR.1, Nat.le_trans a2 hR.2⟩
end LOG3
