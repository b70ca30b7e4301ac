-- LOG, contracts: in range, out of range; the law's log; wherever it is called
section LOG2
variable {bs : Nat} {ra : Nat → Nat} {cA : Nat → ClassId} {dC : Nat → ClassId} {dI : Nat → Nat → Nat} {ρ : Nat × (Nat → Int32)} {X : State → Heap → Prop}
variable {p : Program} {l : Launch} {e : Env} {R : Room} {s : State} {m : MethodId} {args : Array Value} {below : List Frame} {meth : Method} {c : Code} {cc : ByteArray} {own : String} {nL : Nat} {Q : State → Prop} {c0 s0 : Nat} {r : List Value × Sg}
/-- the two logs read the same places -/
def LgP (σ : Sg) (q j : Nat) : Prop := q < σ.1.1 ∧ zC q = 7 ∧ σ.2.1 q 2 = some j ∧ j < σ.1.1 ∧ zC j = 1 ∧ σ.1.1 ≤ NC ∧ σ.1.2.2 ≤ 60000000
set_option maxHeartbeats 4000000 in
theorem lg_in (hX : Xst bs X) (hXa : ∀ U H, X U H → va_AO "LateBinder$Bench" U ∧ va_AO "LateBinder$Key" U) (hac : Cond.arrayClass .int ∈ lw_tbl ∧ Cond.arrayClass .long ∈ lw_tbl ∧ Cond.arrayClass .byte ∈ lw_tbl) {σ τ : Sg} {q j : Nat} {i h x : Int32} (hL : LgP σ q j) (hin : ¬ (i < 0 ∨ σ.2.2.2.1 j 3 ≤ i ∨ h < 0 ∨ 2 < h)) (hle : leS σ τ)
    (hM : Met l (yM 118) (wsM 118) (rmL 2 60 σ τ) (PreE bs ra cA dC dI ρ X [.ref j, .int i, .int h] σ) (PostE bs ra cA dC dI [.int x] τ) (mcE σ τ) (msE σ τ) (zA bs)) :
    Met l yLg (Cond.code yLg cLg 3 (some .int) :: lw_gd) (rmL 4 160 σ τ) (PreE bs ra cA dC dI ρ X [.ref q, .int i, .int h] σ) (PostE bs ra cA dC dI [.int x] τ) (mcE σ τ) (msE σ τ) (zA bs) := by
  obtain ⟨hq, hqc, hj, hj1, hjc, hnc0, hRs0⟩ := hL
  have h1 : ¬ i < 0 := fun z => hin (.inl z)
  have h2 : ¬ σ.2.2.2.1 j 3 ≤ i := fun z => hin (.inr (.inl z))
  have h3 : ¬ h < 0 := fun z => hin (.inr (.inr (.inl z)))
  have h4 : h ≤ 2 := Int32.not_lt.mp (fun z => hin (.inr (.inr (.inr z))))
  refine Met.ofW (cc := cLg) (maxL := 3) (ret := some .int) (by decide) rfl ?_
  intro p e s m args below meth c s₁ B hml hv
  obtain ⟨rfl, hP, hK, hST, hbs, hsz⟩ := hv
  have hx := B.exec
  have hb := B.bytes
  have hr := B.returns
  have hts0 := atoms_spec (ws := Cond.code yLg cLg 3 (some .int) :: lw_gd) B.pre
  have hts : ∀ w ∈ lw_gd, w.before (([Value.ref q, .int i, .int h] : List Value).map (trV bs ra)).toArray s = true := fun w hw => hts0 w (List.mem_cons_of_mem _ hw)
  have hown : s.vm.findClass "LateBinder" = some m.cls := findClass_of_methodNamed B.named
  have hlocks := B.notSynchronized
  have hl := lv_entry (([Value.ref q, .int i, .int h] : List Value).map (trV bs ra)) (n := 3) (Nat.le_of_ble_eq_true rfl)
  rw [lg_entry_eq]
  generalize (lg_sl (([Value.ref q, .int i, .int h] : List Value).map (trV bs ra)) ++ List.replicate (3 - (lg_sl (([Value.ref q, .int i, .int h] : List Value).map (trV bs ra))).length) Slot.unset).toArray = ls at hl ⊢
  have F : Fr bs ra cA dC dI ρ X p s m (([Value.ref q, .int i, .int h] : List Value).map (trV bs ra)).toArray c cLg "LateBinder" 3 := ⟨hx, hb, hml, hown, hts, hK, hST, hbs⟩
  have hlc := ent_lc (bs := bs) (ra := ra) (as := [Value.ref q, .int i, .int h]) (n := 3) (List.forall_mem_cons.mpr ⟨rfl, List.forall_mem_cons.mpr ⟨rfl, List.forall_mem_cons.mpr ⟨rfl, fun _ h => absurd h List.not_mem_nil⟩⟩⟩) (show 3 ≤ 3 from Nat.le_refl 3) hl
  have hmc : mcE σ τ + (σ.1.1 + σ.1.2.1) = τ.1.1 + τ.1.2.1 := by
    unfold mcE
    have := hle.1
    omega
  have hms : msE σ τ + σ.1.2.2 = τ.1.2.2 := by
    unfold msE
    have := hle.2.1
    omega
  have go : ∀ {pc : Nat} {op : Op} {st : List Value} (n : Nat) (t : List Value), opk "LateBinder" false (some .int) cLg pc op = true → isRet op.1 = false → niv op.1 = true → (∀ k : Kn, stp zC zN ρ (fun _ _ _ => none) mL op [.ref q, .int i, .int h] st σ k = k n [.ref q, .int i, .int h] t σ) →
      Gl bs ra cA dC dI p l e (rmL 4 160 σ τ) s m (([Value.ref q, .int i, .int h] : List Value).map (trV bs ra)).toArray below meth c 3 (MQ below (PostE bs ra cA dC dI [.int x] τ) (([Value.ref q, .int i, .int h] : List Value).map (trV bs ra)).toArray s (mcE σ τ) (msE σ τ) (zA bs)) (σ.1.1 + σ.1.2.1) σ.1.2.2 n [.ref q, .int i, .int h] t σ →
      Gl bs ra cA dC dI p l e (rmL 4 160 σ τ) s m (([Value.ref q, .int i, .int h] : List Value).map (trV bs ra)).toArray below meth c 3 (MQ below (PostE bs ra cA dC dI [.int x] τ) (([Value.ref q, .int i, .int h] : List Value).map (trV bs ra)).toArray s (mcE σ τ) (msE σ τ) (zA bs)) (σ.1.1 + σ.1.2.1) σ.1.2.2 pc [.ref q, .int i, .int h] st σ :=
    fun n t g1 g2 g3 g4 g5 => Gl_step F hXa hac (fun z => by cases z) g1 g2 g3 hsz ⟨by omega, by omega⟩ hRs0 g4 g5
  have hgf : ∀ (k : Kn) (nx : Nat) (st : List Value), stp zC zN ρ (fun _ _ _ => none) mL (.getfield 30, nx, [2, 7, 2, 463], nI 0) [.ref q, .int i, .int h] (.ref q :: st) σ k = k nx [.ref q, .int i, .int h] (.ref j :: st) σ := fun k nx st => by
    show zobj zC σ q 7 (k nx [.ref q, .int i, .int h] (zr (σ.2.1 q 2) :: st) σ) = _
    rw [zoT hq hqc, hj]
    rfl
  have hend : Gl bs ra cA dC dI p l e (rmL 4 160 σ τ) s m (([Value.ref q, .int i, .int h] : List Value).map (trV bs ra)).toArray below meth c 3 (MQ below (PostE bs ra cA dC dI [.int x] τ) (([Value.ref q, .int i, .int h] : List Value).map (trV bs ra)).toArray s (mcE σ τ) (msE σ τ) (zA bs)) (σ.1.1 + σ.1.2.1) σ.1.2.2 41 [.ref q, .int i, .int h] [.int x] τ :=
    ret_met (r := ([.int x], τ)) (call := fun _ _ _ => none) (k := fun _ _ _ _ => none) (op := (.ireturn, 42, [], nI 0)) (ini := false) F hr hlocks (by decide +kernel) rfl hmc hms rfl
  have hcal : Gl bs ra cA dC dI p l e (rmL 4 160 σ τ) s m (([Value.ref q, .int i, .int h] : List Value).map (trV bs ra)).toArray below meth c 3 (MQ below (PostE bs ra cA dC dI [.int x] τ) (([Value.ref q, .int i, .int h] : List Value).map (trV bs ra)).toArray s (mcE σ τ) (msE σ τ) (zA bs)) (σ.1.1 + σ.1.2.1) σ.1.2.2 38 [.ref q, .int i, .int h] [.int h, .int i, .ref j] σ := by
    intro ls H locs cells slots hnc hl hP hS hc hs
    refine W_size fun hz => ?_
    have hrun := va_runV (l := l) (e := e) (below := below) (meth := meth) (locs := locs) (cells := cells) (slots := slots) (R := rmL 4 160 σ τ) (g := F0 m 38 ls ([Value.int h, .int i, .ref j].map (trV bs ra))) (rest := []) ⟨hx, hb, hml, hown, hts⟩ hM (call_w F wJ_code wJ_ins wJ_sel wJ_ini wJ_lnk (by decide) (n := 2) (by decide +kernel) rfl rfl (show 2 + 1 ≤ 4 from by decide) (show 8 + (mL 118 + 11) + 60 ≤ 160 from by decide)) (pre_v (as := [.int i, .int h]) F hX (cN := 1) rfl rfl hj1 hjc hnc hP hS hc hsz hz) rfl rfl hl.2.1 (by
      show [Value.int h, .int i, .ref (trN bs ra j)] = _
      rw [trN_lt (nc1000 (Nat.lt_of_lt_of_le hj1 hnc))]
      rfl) (show 2 * 0 + 0 ≤ 8 from by decide) dLg_38 ⟨by show cells + mcE σ τ ≤ mcE σ τ; omega, by show slots + msE σ τ ≤ msE σ τ; omega⟩
    refine call_go hrun hS (fun H1 locs1 hP1 hS1 => ?_)
    exact hend ls H1 locs1 _ _ (hle.2.2 hnc) hl hP1 hS1 (by omega) (by omega)
  refine (?_ : Gl bs ra cA dC dI p l e (rmL 4 160 σ τ) s m (([Value.ref q, .int i, .int h] : List Value).map (trV bs ra)).toArray below meth c 3 (MQ below (PostE bs ra cA dC dI [.int x] τ) (([Value.ref q, .int i, .int h] : List Value).map (trV bs ra)).toArray s (mcE σ τ) (msE σ τ) (zA bs)) (σ.1.1 + σ.1.2.1) σ.1.2.2 0 [.ref q, .int i, .int h] [] σ) ls s.heap [] 0 0 hnc0 hlc hP va_S.rf (Nat.zero_add _) (Nat.zero_add _)
  refine go (op := (.iload_n 1, 1, [1], nI 0)) 1 [.int i] (by decide +kernel) rfl rfl (fun k => rfl) ?_
  refine go (op := (.ifCond .lt 23, 4, [24], nI 0)) 4 [] (by decide +kernel) rfl rfl (fun k => if_neg h1) ?_
  refine go (op := (.iload_n 1, 5, [1], nI 0)) 5 [.int i] (by decide +kernel) rfl rfl (fun k => rfl) ?_
  refine go (op := (.aload_n 0, 6, [0], nI 0)) 6 [.ref q, .int i] (by decide +kernel) rfl rfl (fun k => rfl) ?_
  refine go (op := (.getfield 30, 9, [2, 7, 2, 463], nI 0)) 9 [.ref j, .int i] (by decide +kernel) rfl rfl (fun k => hgf k 9 _) ?_
  refine go (op := (.getfield 277, 12, [0, 1, 3, 214], nI 0)) 12 [.int (σ.2.2.2.1 j 3), .int i] (by decide +kernel) rfl rfl (fun k => by
    show zobj zC σ j 1 (k 12 [.ref q, .int i, .int h] [.int (σ.2.2.2.1 j 3), .int i] σ) = _
    rw [zoT hj1 hjc]) ?_
  refine go (op := (.if_icmp .ge 12, 15, [24], nI 0)) 15 [] (by decide +kernel) rfl rfl (fun k => if_neg h2) ?_
  refine go (op := (.iload_n 2, 16, [2], nI 0)) 16 [.int h] (by decide +kernel) rfl rfl (fun k => rfl) ?_
  refine go (op := (.ifCond .lt 8, 19, [24], nI 0)) 19 [] (by decide +kernel) rfl rfl (fun k => if_neg h3) ?_
  refine go (op := (.iload_n 2, 20, [2], nI 0)) 20 [.int h] (by decide +kernel) rfl rfl (fun k => rfl) ?_
  refine go (op := (.iconst 2, 21, [], nI 2)) 21 [.int (nI 2), .int h] (by decide +kernel) rfl rfl (fun k => rfl) ?_
  refine go (op := (.if_icmp .le 11, 24, [32], nI 0)) 32 [] (by decide +kernel) rfl rfl (fun k => if_pos h4) ?_
  refine go (op := (.aload_n 0, 33, [0], nI 0)) 33 [.ref q] (by decide +kernel) rfl rfl (fun k => rfl) ?_
  refine go (op := (.getfield 30, 36, [2, 7, 2, 463], nI 0)) 36 [.ref j] (by decide +kernel) rfl rfl (fun k => hgf k 36 _) ?_
  refine go (op := (.iload_n 1, 37, [1], nI 0)) 37 [.int i, .ref j] (by decide +kernel) rfl rfl (fun k => rfl) ?_
  refine go (op := (.iload_n 2, 38, [2], nI 0)) 38 [.int h, .int i, .ref j] (by decide +kernel) rfl rfl (fun k => rfl) ?_
  exact hcal
/-- what the throw stands on -/
def XTh (bs : Nat) (U : State) (H : Heap) : Prop := (∀ w ∈ zTh, va_Nw w U) ∧ vx_Zq Bundle.tN "UNASSIGNED_STACK" Bundle.steD (zA bs) U H ∧ vx_Zq Bundle.tN "SUPPRESSED_SENTINEL" Bundle.listD (zA bs) U H
abbrev XLg (bs : Nat) (ra : Nat → Nat) (cA : Nat → ClassId) (dC : Nat → ClassId) (dI : Nat → Nat → Nat) (σ : Sg) : String → State → State → Prop := vx_X (fun _ : Unit => True) (fun E _ t => E = NSE ∧ va_P (dC, dI) clz (wsO bs ra cA σ) t.heap) (zA bs)
abbrev QLg (bs : Nat) : Array Value → State → Outcome → State → Prop := va_Qi (fun _ (_ : Unit) => False) (fun _ _ => False) (zA bs)
set_option maxHeartbeats 4000000 in
theorem lg_out (hX : Xst bs X) (hXa : ∀ U H, X U H → va_AO "LateBinder$Bench" U ∧ va_AO "LateBinder$Key" U) (hXt : ∀ U H, X U H → XTh bs U H) (htr : l.stackTraces = false) (hac : Cond.arrayClass .int ∈ lw_tbl ∧ Cond.arrayClass .long ∈ lw_tbl ∧ Cond.arrayClass .byte ∈ lw_tbl) {σ : Sg} {q j : Nat} {i h : Int32} (hL : LgP σ q j) (hout : i < 0 ∨ σ.2.2.2.1 j 3 ≤ i ∨ h < 0 ∨ 2 < h) :
    vx_Met l yLg (Cond.code yLg cLg 3 (some .int) :: lw_gd) { frames := 6, cells := 1, slots := 6, locals := 160 } (PreE bs ra cA dC dI ρ X [.ref q, .int i, .int h] σ) (QLg bs) (XLg bs ra cA dC dI σ) 1 6 (zA bs) := by
  obtain ⟨hq, hqc, hj, hj1, hjc, hnc0, hRs0⟩ := hL
  refine vx_ofW (cc := cLg) (maxL := 3) (ret := some .int) (by decide) rfl ?_
  intro p e s m args below meth c s₁ B hml htb hv
  obtain ⟨rfl, hP, hK, hST, hbs, hsz⟩ := hv
  have hx := B.exec
  have hb := B.bytes
  have hts0 := atoms_spec (ws := Cond.code yLg cLg 3 (some .int) :: lw_gd) B.pre
  have hts : ∀ w ∈ lw_gd, w.before (([Value.ref q, .int i, .int h] : List Value).map (trV bs ra)).toArray s = true := fun w hw => hts0 w (List.mem_cons_of_mem _ hw)
  have hown : s.vm.findClass "LateBinder" = some m.cls := findClass_of_methodNamed B.named
  have hlocks := B.notSynchronized
  obtain ⟨hNw, hU, hN⟩ := hXt _ _ hST.2.2.2.2.2
  have hl := lv_entry (([Value.ref q, .int i, .int h] : List Value).map (trV bs ra)) (n := 3) (Nat.le_of_ble_eq_true rfl)
  rw [lg_entry_eq]
  generalize (lg_sl (([Value.ref q, .int i, .int h] : List Value).map (trV bs ra)) ++ List.replicate (3 - (lg_sl (([Value.ref q, .int i, .int h] : List Value).map (trV bs ra))).length) Slot.unset).toArray = ls at hl ⊢
  have F : Fr bs ra cA dC dI ρ X p s m (([Value.ref q, .int i, .int h] : List Value).map (trV bs ra)).toArray c cLg "LateBinder" 3 := ⟨hx, hb, hml, hown, hts, hK, hST, hbs⟩
  have hlc := ent_lc (bs := bs) (ra := ra) (as := [Value.ref q, .int i, .int h]) (n := 3) (List.forall_mem_cons.mpr ⟨rfl, List.forall_mem_cons.mpr ⟨rfl, List.forall_mem_cons.mpr ⟨rfl, fun _ h => absurd h List.not_mem_nil⟩⟩⟩) (show 3 ≤ 3 from Nat.le_refl 3) hl
  have hat : ∀ w ∈ vx_at0 "LateBinder" 280 NSE thN, w.before (([Value.ref q, .int i, .int h] : List Value).map (trV bs ra)).toArray s = true := fun w hw => by
    have h9 := List.all_eq_true.mp at_ok w hw
    rw [Bool.or_eq_true, Bool.and_eq_true] at h9
    rcases h9 with ⟨g1, g2⟩ | g
    · exact hts w (gd_in (of_decide_eq_true g2) g1)
    · have g := of_decide_eq_true g
      exact va_Nw.use (List.all_eq_true.mp zTh_ot w g) (hNw w g)
  have go : ∀ {pc : Nat} {op : Op} {st : List Value} (n : Nat) (t : List Value), opk "LateBinder" false (some .int) cLg pc op = true → isRet op.1 = false → niv op.1 = true → (∀ k : Kn, stp zC zN ρ (fun _ _ _ => none) mL op [.ref q, .int i, .int h] st σ k = k n [.ref q, .int i, .int h] t σ) →
      Gl bs ra cA dC dI p l e { frames := 6, cells := 1, slots := 6, locals := 160 } s m (([Value.ref q, .int i, .int h] : List Value).map (trV bs ra)).toArray below meth c 3 (vx_MQ below (QLg bs) (XLg bs ra cA dC dI σ) (([Value.ref q, .int i, .int h] : List Value).map (trV bs ra)).toArray s 1 6 (zA bs)) (σ.1.1 + σ.1.2.1) σ.1.2.2 n [.ref q, .int i, .int h] t σ →
      Gl bs ra cA dC dI p l e { frames := 6, cells := 1, slots := 6, locals := 160 } s m (([Value.ref q, .int i, .int h] : List Value).map (trV bs ra)).toArray below meth c 3 (vx_MQ below (QLg bs) (XLg bs ra cA dC dI σ) (([Value.ref q, .int i, .int h] : List Value).map (trV bs ra)).toArray s 1 6 (zA bs)) (σ.1.1 + σ.1.2.1) σ.1.2.2 pc [.ref q, .int i, .int h] st σ :=
    fun n t g1 g2 g3 g4 g5 => Gl_step F hXa hac (fun z => by cases z) g1 g2 g3 hsz ⟨by omega, by omega⟩ hRs0 g4 g5
  have hgf : ∀ (k : Kn) (nx : Nat) (st : List Value), stp zC zN ρ (fun _ _ _ => none) mL (.getfield 30, nx, [2, 7, 2, 463], nI 0) [.ref q, .int i, .int h] (.ref q :: st) σ k = k nx [.ref q, .int i, .int h] (.ref j :: st) σ := fun k nx st => by
    show zobj zC σ q 7 (k nx [.ref q, .int i, .int h] (zr (σ.2.1 q 2) :: st) σ) = _
    rw [zoT hq hqc, hj]
    rfl
  have hthr : Gl bs ra cA dC dI p l e { frames := 6, cells := 1, slots := 6, locals := 160 } s m (([Value.ref q, .int i, .int h] : List Value).map (trV bs ra)).toArray below meth c 3 (vx_MQ below (QLg bs) (XLg bs ra cA dC dI σ) (([Value.ref q, .int i, .int h] : List Value).map (trV bs ra)).toArray s 1 6 (zA bs)) (σ.1.1 + σ.1.2.1) σ.1.2.2 24 [.ref q, .int i, .int h] [] σ := by
    intro ls H locs cells slots hnc hl hP hS hc hs
    have ec : cells = 0 := by omega
    have es : slots = 0 := by omega
    subst ec; subst es
    exact vx_throw0 (A := zA bs) (names := thN) (own := "LateBinder") (cls := NSE) (ik := 278) (ic := 280) (rest := []) hx hb htr hown (by decide +kernel) (by decide +kernel) (hts _ (gd_in wL_cl rfl)) (hts _ (gd_in wL_nse rfl)) hat (fun w hw => List.all_eq_true.mp at_ot w hw) hU hN hS (by rw [hml]; exact hl.2.1) dLg_24 dLg_27 dLg_28 dLg_31 (fun x hx => (htb x hx).elim) (by decide) (by decide) (by decide) (by decide) hlocks
      (fun t hA hz hk => ⟨(), trivial, ⟨rfl, hP.kept (fun k q hk2 => hk q.1 (vx_lt hP hk2))⟩, ⟨Nat.le_trans hS.1 hz, fun q h1 h2 => by rw [hk q (Nat.lt_of_lt_of_le h1 hS.1)]; exact hS.2.1 q h1 h2⟩⟩) hS.2.2 (by decide) (by decide)
  refine (?_ : Gl bs ra cA dC dI p l e { frames := 6, cells := 1, slots := 6, locals := 160 } s m (([Value.ref q, .int i, .int h] : List Value).map (trV bs ra)).toArray below meth c 3 (vx_MQ below (QLg bs) (XLg bs ra cA dC dI σ) (([Value.ref q, .int i, .int h] : List Value).map (trV bs ra)).toArray s 1 6 (zA bs)) (σ.1.1 + σ.1.2.1) σ.1.2.2 0 [.ref q, .int i, .int h] [] σ) ls s.heap [] 0 0 hnc0 hlc hP va_S.rf (Nat.zero_add _) (Nat.zero_add _)
  refine go (op := (.iload_n 1, 1, [1], nI 0)) 1 [.int i] (by decide +kernel) rfl rfl (fun k => rfl) ?_
  by_cases h1 : i < 0
  · exact go (op := (.ifCond .lt 23, 4, [24], nI 0)) 24 [] (by decide +kernel) rfl rfl (fun k => if_pos h1) hthr
  refine go (op := (.ifCond .lt 23, 4, [24], nI 0)) 4 [] (by decide +kernel) rfl rfl (fun k => if_neg h1) ?_
  refine go (op := (.iload_n 1, 5, [1], nI 0)) 5 [.int i] (by decide +kernel) rfl rfl (fun k => rfl) ?_
  refine go (op := (.aload_n 0, 6, [0], nI 0)) 6 [.ref q, .int i] (by decide +kernel) rfl rfl (fun k => rfl) ?_
  refine go (op := (.getfield 30, 9, [2, 7, 2, 463], nI 0)) 9 [.ref j, .int i] (by decide +kernel) rfl rfl (fun k => hgf k 9 _) ?_
  refine go (op := (.getfield 277, 12, [0, 1, 3, 214], nI 0)) 12 [.int (σ.2.2.2.1 j 3), .int i] (by decide +kernel) rfl rfl (fun k => by
    show zobj zC σ j 1 (k 12 [.ref q, .int i, .int h] [.int (σ.2.2.2.1 j 3), .int i] σ) = _
    rw [zoT hj1 hjc]) ?_
  by_cases h2 : σ.2.2.2.1 j 3 ≤ i
  · exact go (op := (.if_icmp .ge 12, 15, [24], nI 0)) 24 [] (by decide +kernel) rfl rfl (fun k => if_pos h2) hthr
  refine go (op := (.if_icmp .ge 12, 15, [24], nI 0)) 15 [] (by decide +kernel) rfl rfl (fun k => if_neg h2) ?_
  refine go (op := (.iload_n 2, 16, [2], nI 0)) 16 [.int h] (by decide +kernel) rfl rfl (fun k => rfl) ?_
  by_cases h3 : h < 0
  · exact go (op := (.ifCond .lt 8, 19, [24], nI 0)) 24 [] (by decide +kernel) rfl rfl (fun k => if_pos h3) hthr
  refine go (op := (.ifCond .lt 8, 19, [24], nI 0)) 19 [] (by decide +kernel) rfl rfl (fun k => if_neg h3) ?_
  refine go (op := (.iload_n 2, 20, [2], nI 0)) 20 [.int h] (by decide +kernel) rfl rfl (fun k => rfl) ?_
  refine go (op := (.iconst 2, 21, [], nI 2)) 21 [.int (nI 2), .int h] (by decide +kernel) rfl rfl (fun k => rfl) ?_
  have h4 : ¬ h ≤ nI 2 := fun z => by
    rcases hout with g | g | g | g
    · exact h1 g
    · exact h2 g
    · exact h3 g
    · exact Int32.not_lt.mpr z g
  exact go (op := (.if_icmp .le 11, 24, [32], nI 0)) 24 [] (by decide +kernel) rfl rfl (fun k => if_neg h4) hthr
end LOG2
