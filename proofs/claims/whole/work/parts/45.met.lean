-- EVERY METHOD'S CONTRACT out of what the abstract machine answers
section MET
variable {bs : Nat} {ra : Nat → Nat} {cA : Nat → ClassId} {dC : Nat → ClassId} {dI : Nat → Nat → Nat} {ρ : Nat × (Nat → Int32)} {X : State → Heap → Prop}
variable {p : Program} {l : Launch} {e : Env} {R : Room} {s : State} {m : MethodId} {args : Array Value} {below : List Frame} {meth : Method} {c : Code} {cc : ByteArray} {own : String} {nL : Nat} {c0 s0 mc ms : Nat} {r : List Value × Sg}
set_option maxHeartbeats 2000000 in
theorem ret_met (F : Fr bs ra cA dC dI ρ X p s m args c cc own nL) {ini : Bool} {rt : Option FieldType} (hrt : meth.sig.returnType = rt) (hlk : meth.locks = false) {call : Nat → List Value → Sg → Rs} {k : Kn} {pc : Nat} {op : Op} {xs st : List Value} {σ : Sg} (hok : opk own ini rt cc pc op = true) (hr : isRet op.1 = true) (hmc : mc + c0 = r.2.1.1 + r.2.1.2.1) (hms : ms + s0 = r.2.1.2.2)
    (h : stp zC zN ρ call mL op xs st σ k = some r) : Gl bs ra cA dC dI p l e R s m args below meth c nL (MQ below (PostE bs ra cA dC dI r.1 r.2) args s mc ms (zA bs)) c0 s0 pc xs st σ := by
  obtain ⟨hx, hb, hml, hown, hts, hK, hST, hbs⟩ := F
  obtain ⟨i, n, a, v⟩ := op
  have hne : ∀ {j : Instr} {n : Nat}, decode cc pc = .ok (j, pc + n - pc) → decode cc pc = .ok (j, n) := fun {j n} hh => by rw [Nat.add_sub_cancel_left] at hh; exact hh
  have fin : ∀ (cells slots : Nat), cells + c0 = r.2.1.1 + r.2.1.2.1 → slots + s0 = r.2.1.2.2 → cells = mc ∧ slots = ms := fun cells slots h1 h2 => ⟨by omega, by omega⟩
  cases i <;> first | (exact absurd (show false = true from hr) (by decide)) | skip
  case ireturn =>
    simp only [opk, Bool.and_eq_true, decide_eq_true_eq] at hok
    obtain ⟨hd, rfl, hv⟩ := hok
    replace hd := hne hd
    dsimp only [stp] at h
    split at h
    case h_2 => cases h
    rename_i x
    split at h
    · have hv := of_decide_eq_true hv
      cases h
      intro ls H locs cells slots hnc hl hP hS hc hs
      obtain ⟨rfl, rfl⟩ := fin cells slots hc hs
      exact W.iret hx hb (hrt.trans hv) (fun t ht hW => ⟨rfl, by rw [ht]; exact hP, hS.F ht⟩) hS.2.2 hd hlk
    · rename_i hne2
      have hv : rt = some .boolean := by
        cases a with
        | nil => exact absurd rfl hne2
        | cons a0 a1 => exact of_decide_eq_true hv
      obtain ⟨hx01, h⟩ := ite_i h
      cases h
      intro ls H locs cells slots hnc hl hP hS hc hs
      obtain ⟨rfl, rfl⟩ := fin cells slots hc hs
      exact W.zret (ty := .boolean) hx hb (hrt.trans hv) (by rcases hx01 with rfl | rfl <;> rfl) (fun t ht hW => ⟨rfl, by rw [ht]; exact hP, hS.F ht⟩) hS.2.2 hd hlk
  case lreturn =>
    simp only [opk, Bool.and_eq_true, decide_eq_true_eq] at hok
    obtain ⟨hd, rfl, hv⟩ := hok
    replace hd := hne hd
    dsimp only [stp] at h
    split at h
    case h_2 => cases h
    cases h
    intro ls H locs cells slots hnc hl hP hS hc hs
    obtain ⟨rfl, rfl⟩ := fin cells slots hc hs
    exact W.lret hx hb (hrt.trans hv) (fun t ht hW => ⟨rfl, by rw [ht]; exact hP, hS.F ht⟩) hS.2.2 hd hlk
  case areturn =>
    simp only [opk, Bool.and_eq_true, decide_eq_true_eq] at hok
    obtain ⟨hd, rfl, hv⟩ := hok
    replace hd := hne hd
    split at hv
    case h_2 => cases hv
    rename_i cn
    dsimp only [stp] at h
    split at h
    case h_2 => cases h
    cases h
    intro ls H locs cells slots hnc hl hP hS hc hs
    obtain ⟨rfl, rfl⟩ := fin cells slots hc hs
    exact W.aret hx hb hrt (Or.inl ⟨_, rfl⟩) (Or.inr ⟨_, rfl⟩) (fun t ht hW => ⟨rfl, by rw [ht]; exact hP, hS.F ht⟩) hS.2.2 hd hlk
  case return_ =>
    simp only [opk, Bool.and_eq_true, decide_eq_true_eq] at hok
    obtain ⟨hd, rfl, hv⟩ := hok
    replace hd := hne hd
    dsimp only [stp] at h
    split at h
    case h_2 => cases h
    cases h
    intro ls H locs cells slots hnc hl hP hS hc hs
    obtain ⟨rfl, rfl⟩ := fin cells slots hc hs
    exact W.vret hx hb (hrt.trans hv) (fun t ht hW => ⟨rfl, by rw [ht]; exact hP, hS.F ht⟩) hS.2.2 hd hlk
theorem lg_len (as : List Value) (h : ∀ v ∈ as, isL v = true) : (lg_sl (as.map (trV bs ra))).length = (zlay as).length := by
  rw [zlay_len as h]
  induction as with
  | nil => rfl
  | cons v as ih =>
    have ih := ih (fun w hw => h w (List.mem_cons_of_mem _ hw))
    have hv := h v List.mem_cons_self
    cases v with
    | int x => simp [lg_sl, trV, vw, Value.category] at ih ⊢; omega
    | long x => simp [lg_sl, trV, vw, Value.category] at ih ⊢; omega
    | ref x => simp [lg_sl, trV, vw, Value.category] at ih ⊢; omega
    | _ => cases hv
set_option maxHeartbeats 4000000 in
theorem met_all (hX : Xst bs X) (hXa : ∀ U H, X U H → va_AO "LateBinder$Bench" U ∧ va_AO "LateBinder$Key" U) (hac : Cond.arrayClass .int ∈ lw_tbl ∧ Cond.arrayClass .long ∈ lw_tbl ∧ Cond.arrayClass .byte ∈ lw_tbl) (hmok : ∀ mi, mi < nM → mokb mi = true)
    (hchk : ∀ mi, mi < nM → ∀ pc, opk (yM mi).cls (decide ((yM mi).name = "<init>")) (rM mi) (cM mi) pc (tab mi pc) = true)
    (hprim : ∀ d, PrimOK bs ra cA dC dI ρ X l d (fun mi xs σ => EV ρ d mi 0 xs [] σ)) (hmna : MnaOK bs ra cA dC dI ρ X l) : ∀ d, MetsOK bs ra cA dC dI ρ X l d (fun mi xs σ => EV ρ d mi 0 xs [] σ) := by
  intro d
  induction d with
  | zero => intro mi as σ rv τ _ _ _ _ _ h; cases h
  | succ d ih =>
    intro mi as σ rv τ hmi has hlen hnc hRs h
    refine ⟨EV_leS ρ _ _ _ _ _ _ h, ?_⟩
    have hle : leS σ τ := EV_leS ρ _ _ _ _ _ _ h
    obtain ⟨f, hf⟩ := EV_some.mp h
    have hmk := hmok mi hmi
    unfold mokb at hmk
    simp only [Bool.and_eq_true, decide_eq_true_eq] at hmk
    obtain ⟨w1, w2, hpl, hcl, hmL, -⟩ := hmk
    refine Met.ofW (cc := cM mi) (maxL := mL mi) (ret := rM mi) hpl rfl ?_
    intro p e s m args below meth c s₁ B hml hv
    obtain ⟨rfl, hP, hK, hST, hbs, hsz⟩ := hv
    have hx := B.exec
    have hb := B.bytes
    have hr := B.returns
    have hts0 := atoms_spec (ws := wsM mi) B.pre
    have hts : ∀ w ∈ lw_gd, w.before (as.map (trV bs ra)).toArray s = true := fun w hw => hts0 w (List.mem_cons_of_mem _ hw)
    have hown : s.vm.findClass (yM mi).cls = some m.cls := findClass_of_methodNamed B.named
    have hlocks := B.notSynchronized
    have hin : meth.name = (yM mi).name := (name_of_methodNamed B.named B.method).1
    have hl := lv_entry (as.map (trV bs ra)) (n := mL mi) (by rw [lg_len as has]; exact hlen)
    rw [lg_entry_eq]
    generalize (lg_sl (as.map (trV bs ra)) ++ List.replicate (mL mi - (lg_sl (as.map (trV bs ra))).length) Slot.unset).toArray = ls at hl ⊢
    have F : Fr bs ra cA dC dI ρ X p s m (as.map (trV bs ra)).toArray c (cM mi) (yM mi).cls (mL mi) := ⟨hx, hb, hml, hown, hts, hK, hST, hbs⟩
    have hlc : lcO bs ra (mL mi) (zpad (mL mi) (zlay as)) ls := by
      refine lcO.of hl (by unfold zpad; rw [List.length_append, List.length_replicate]; omega) (fun j v hv hL => ?_)
      refine zlay_args as 0 (mL mi - (zlay as).length) has ?_
      exact zlv_mem.mpr ⟨j, v, hv, (Nat.zero_add _).symm, hL, rfl⟩
    have hmc : mcE σ τ + (σ.1.1 + σ.1.2.1) = τ.1.1 + τ.1.2.1 := by
      unfold mcE
      have := hle.1
      omega
    have hms : msE σ τ + σ.1.2.2 = τ.1.2.2 := by
      unfold msE
      have := hle.2.1
      omega
    exact run_snd (R := rmE (d + 1) σ τ) (c0 := σ.1.1 + σ.1.2.1) (s0 := σ.1.2.2) (r := (rv, τ)) (d := d) F hX hXa hac hmok (ini := decide ((yM mi).name = "<init>")) (rt := rM mi) (fun z => by rw [hin]; exact of_decide_eq_true z) (fun mi' xs' s' q hq => EV_leS ρ _ _ _ _ _ _ hq) (hchk mi hmi) ⟨Nat.le_refl _, by show 60 * d + 649 ≤ 60 * (d + 1) + 600; omega⟩ hsz ⟨by show τ.1.1 + τ.1.2.1 ≤ mcE σ τ + _; omega, by show τ.1.2.2 ≤ msE σ τ + _; omega⟩ hRs hlocks ih (hprim d) hmna (fun pc xs st σ' k h1 h2 => ret_met F hr hlocks (hchk mi hmi pc) h1 hmc hms h2) f 0 _ [] σ hf ls s.heap [] 0 0 hnc hlc hP va_S.rf (Nat.zero_add _) (Nat.zero_add _)
end MET
