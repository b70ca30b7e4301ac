section MAIN
variable {bs : Nat} {ra : Nat → Nat} {cA : Nat → ClassId} {dC : Nat → ClassId} {dI : Nat → Nat → Nat} {ρ : Nat × (Nat → Int32)} {X : State → Heap → Prop}
variable {p : Program} {l : Launch} {e : Env} {R : Room} {s : State} {m : MethodId} {args : Array Value} {below : List Frame} {meth : Method} {c : Code} {cc : ByteArray} {own : String} {nL : Nat} {Q : State → Prop} {c0 s0 : Nat} {k : Kn} {r : List Value × Sg}
/-- a method's end isn't a step -/
def isRet (i : Instr) : Bool := match i with
  | .ireturn => true
  | .lreturn => true
  | .areturn => true
  | .return_ => true
  | _ => false
theorem acmp_tr (F : Fr bs ra cA dC dI ρ X p s m args c cc own nL) {x y : Option Nat} (hx : ∀ q, x = some q → 1000 ≤ q ∧ q ≤ 1009) (hy : ∀ q, y = some q → 1000 ≤ q ∧ q ≤ 1009) : x.map (trN bs ra) = y.map (trN bs ra) ↔ x = y := by
  constructor
  · intro h
    cases x with
    | none => cases y with
      | none => rfl
      | some b => cases h
    | some a => cases y with
      | none => cases h
      | some b =>
        obtain ⟨i, hi, ha, ta⟩ := key_ra F (hx a rfl).1 (hx a rfl).2
        obtain ⟨j, hj, hb, tb⟩ := key_ra F (hy b rfl).1 (hy b rfl).2
        have h2 : trN bs ra a = trN bs ra b := Option.some.inj h
        rw [ta, tb] at h2
        have h3 := F.2.2.2.2.2.2.1.1.2 i j hi hj h2
        rw [ha, hb, h3]
  · intro h; rw [h]
set_option maxHeartbeats 8000000 in
set_option maxRecDepth 4000 in
theorem snd_step (F : Fr bs ra cA dC dI ρ X p s m args c cc own nL) {ini : Bool} {rt : Option FieldType} (hini : ini = true → meth.name = "<init>") {pc : Nat} {op : Op} {call : Nat → List Value → Sg → Rs} {xs st : List Value} {σ : Sg} (hok : opk own ini rt cc pc op = true) (hnr : isRet op.1 = false)
    (hR : r.2.1.1 + r.2.1.2.1 ≤ R.cells + c0 ∧ r.2.1.2.2 ≤ R.slots + s0) (hsz : s.heap.size ≤ bs + c0) (hRs : r.2.1.2.2 ≤ 60000000) (hAO : va_AO "LateBinder$Bench" s ∧ va_AO "LateBinder$Key" s) (hac : Cond.arrayClass .int ∈ lw_tbl ∧ Cond.arrayClass .long ∈ lw_tbl ∧ Cond.arrayClass .byte ∈ lw_tbl)
    (hk1 : ∀ n ys t τ, k n ys t τ = some r → leS τ r.2) (hk : ∀ n ys t τ, leS σ τ → k n ys t τ = some r → Gl bs ra cA dC dI p l e R s m args below meth c nL Q c0 s0 n ys t τ)
    (hcal : ∀ (so x : Nat) (a : List Nat), so ≤ 2 → cak own so x a = true → decode cc pc = .ok ((if so = 0 then .invokestatic x else if so = 1 then .invokevirtual x else .invokespecial x), 3) → zcal zC zN call mL a (pc + 3) xs st σ k = some r → Gl bs ra cA dC dI p l e R s m args below meth c nL Q c0 s0 pc xs st σ)
    (hmna : ∀ (x w : Nat), lwk w (.classLink own x "[[I") = true → decode cc pc = .ok (.multianewarray x 2, 4) → zi2 st (fun x y t => if 0 ≤ x ∧ 0 ≤ y then znew zC zN σ 23 x.toNatClampNeg fun q s => zrow zC zN q y.toNatClampNeg x.toNatClampNeg 0 s fun s => k (pc + 4) xs (.ref q :: t) s else none) = some r → Gl bs ra cA dC dI p l e R s m args below meth c nL Q c0 s0 pc xs st σ)
    (h : stp zC zN ρ call mL op xs st σ k = some r) : Gl bs ra cA dC dI p l e R s m args below meth c nL Q c0 s0 pc xs st σ := by
  have Fr0 := F
  obtain ⟨hx, hb, hml, hown, hts, hK, hST, hbs⟩ := F
  obtain ⟨i, n, a, v⟩ := op
  have hne : ∀ {j : Instr} {n : Nat}, decode cc pc = .ok (j, pc + n - pc) → decode cc pc = .ok (j, n) := fun {j n} hh => by rw [Nat.add_sub_cancel_left] at hh; exact hh
  cases i <;> try (exact absurd (show none = some r from h) (by intro z; cases z))
  case iconst =>
    simp only [opk, Bool.and_eq_true, decide_eq_true_eq] at hok
    obtain ⟨hd, rfl, hv⟩ := hok
    replace hd := hne hd
    intro ls H locs cells slots hnc hl hP hS hc hs
    exact lv_iconst hx hb hd hv (hk _ _ _ _ (leS.rf σ) h ls H locs cells slots hnc hl hP hS hc hs)
  case bipush =>
    simp only [opk, Bool.and_eq_true, decide_eq_true_eq] at hok
    obtain ⟨hd, rfl, hv⟩ := hok
    replace hd := hne hd
    intro ls H locs cells slots hnc hl hP hS hc hs
    exact lv_bipush hx hb hd hv (hk _ _ _ _ (leS.rf σ) h ls H locs cells slots hnc hl hP hS hc hs)
  case sipush =>
    simp only [opk, Bool.and_eq_true, decide_eq_true_eq] at hok
    obtain ⟨hd, rfl, hv⟩ := hok
    replace hd := hne hd
    intro ls H locs cells slots hnc hl hP hS hc hs
    exact lv_sipush hx hb hd hv (hk _ _ _ _ (leS.rf σ) h ls H locs cells slots hnc hl hP hS hc hs)
  case ldc y =>
    simp only [opk, Bool.and_eq_true, decide_eq_true_eq] at hok
    obtain ⟨hd, rfl, hv⟩ := hok
    replace hd := hne hd
    split at hv
    case h_2 => cases hv
    rename_i q w
    dsimp only [stp] at h
    cases hq : Nat.beq q 0
    · rw [hq] at h hv
      simp only [cond_false, Bool.and_eq_true, decide_eq_true_eq] at h hv
      obtain ⟨h1, h2, h3, h4⟩ := hv
      have h1 := Nat.le_of_ble_eq_true h1
      have h2 := Nat.le_of_ble_eq_true h2
      have hR9 := hST.2.2.2.1 (q - 1020) (by omega)
      rw [← h4, show 1020 + (q - 1020) = q by omega, ← h3] at hR9
      intro ls H locs cells slots hnc hl hP hS hc hs
      have hgo := hk _ _ _ _ (leS.rf σ) h ls H locs cells slots hnc hl hP hS hc hs
      rw [List.map_cons, show trV bs ra (.ref q) = .ref (ra q) by show Value.ref (trN bs ra q) = _; rw [trN_ge (by omega)]] at hgo
      exact va_ldcS hx hb hown hR9 hd hgo
    · rw [hq] at h hv
      intro ls H locs cells slots hnc hl hP hS hc hs
      exact lv_ldc hx hb hown (hts _ (gd_in (lwk_m hv) rfl)) hd (hk _ _ _ _ (leS.rf σ) h ls H locs cells slots hnc hl hP hS hc hs)
  case ldc_w y =>
    simp only [opk, Bool.and_eq_true, decide_eq_true_eq] at hok
    obtain ⟨hd, rfl, hv⟩ := hok
    replace hd := hne hd
    split at hv
    case h_2 => cases hv
    rename_i q w
    dsimp only [stp] at h
    rw [Bool.and_eq_true] at hv
    rw [hv.1] at h
    intro ls H locs cells slots hnc hl hP hS hc hs
    exact lv_ldcw hx hb hown (hts _ (gd_in (lwk_m hv.2) rfl)) hd (hk _ _ _ _ (leS.rf σ) h ls H locs cells slots hnc hl hP hS hc hs)
  case lconst =>
    simp only [opk, Bool.and_eq_true, decide_eq_true_eq] at hok
    obtain ⟨hd, rfl, hv⟩ := hok
    replace hd := hne hd
    subst hv
    intro ls H locs cells slots hnc hl hP hS hc hs
    exact lv_lconst hx hb hd rfl (hk _ _ _ _ (leS.rf σ) h ls H locs cells slots hnc hl hP hS hc hs)
  case ldc2_w y =>
    simp only [opk, Bool.and_eq_true, decide_eq_true_eq] at hok
    obtain ⟨hd, rfl, hv⟩ := hok
    replace hd := hne hd
    split at hv
    case h_2 => cases hv
    rename_i q w
    intro ls H locs cells slots hnc hl hP hS hc hs
    exact lv_ldc2 hx hb hown (hts _ (gd_in (lwk_m hv) rfl)) hd (hk _ _ _ _ (leS.rf σ) h ls H locs cells slots hnc hl hP hS hc hs)
  case getstatic y =>
    simp only [opk, Bool.and_eq_true, decide_eq_true_eq] at hok
    obtain ⟨hd, rfl, hv⟩ := hok
    replace hd := hne hd
    split at hv
    case h_2 => cases hv
    rename_i q w
    simp only [Bool.and_eq_true] at hv
    obtain ⟨h1, h2, h3⟩ := hv
    have h1 := Nat.le_of_ble_eq_true h1
    have h2 := Nat.le_of_ble_eq_true h2
    intro ls H locs cells slots hnc hl hP hS hc hs
    have hgo := hk _ _ _ _ (leS.rf σ) h ls H locs cells slots hnc hl hP hS hc hs
    rw [List.map_cons, show trV bs ra (.ref q) = .ref (ra (1000 + (q - 1000))) by show Value.ref (trN bs ra q) = _; rw [trN_ge (by omega), show 1000 + (q - 1000) = q by omega]] at hgo
    exact va_gets hx hb (hST.1.1 (q - 1000) (by show q - 1000 < 10; omega)).1 hS hown (hts _ (gd_in (lwk_m h3) rfl)) (fun _ h9 => h9) hd hgo
  case aconst_null =>
    simp only [opk, Bool.and_eq_true, decide_eq_true_eq] at hok
    obtain ⟨hd, rfl⟩ := hok
    replace hd := hne hd
    intro ls H locs cells slots hnc hl hP hS hc hs
    exact lv_null hx hb hd (hk _ _ _ _ (leS.rf σ) h ls H locs cells slots hnc hl hP hS hc hs)
  case iload =>
    simp only [opk, Bool.and_eq_true, decide_eq_true_eq] at hok
    obtain ⟨hd, rfl, hv⟩ := hok
    replace hd := hne hd
    subst hv
    dsimp only [stp] at h
    replace h := zld_i h
    obtain ⟨w, hw, h⟩ := h
    replace h := zint_i h
    obtain ⟨x, rfl, h⟩ := h
    intro ls H locs cells slots hnc hl hP hS hc hs
    exact lv_iload hx hb hd (hl.get hw rfl) (hk _ _ _ _ (leS.rf σ) h ls H locs cells slots hnc hl hP hS hc hs)
  case lload =>
    simp only [opk, Bool.and_eq_true, decide_eq_true_eq] at hok
    obtain ⟨hd, rfl, hv⟩ := hok
    replace hd := hne hd
    subst hv
    dsimp only [stp] at h
    replace h := zld_i h
    obtain ⟨w, hw, h⟩ := h
    replace h := zlon_i h
    obtain ⟨x, rfl, h⟩ := h
    intro ls H locs cells slots hnc hl hP hS hc hs
    exact lv_lload hx hb hd (hl.get hw rfl) (hk _ _ _ _ (leS.rf σ) h ls H locs cells slots hnc hl hP hS hc hs)
  case aload =>
    simp only [opk, Bool.and_eq_true, decide_eq_true_eq] at hok
    obtain ⟨hd, rfl, hv⟩ := hok
    replace hd := hne hd
    subst hv
    dsimp only [stp] at h
    replace h := zld_i h
    obtain ⟨w, hw, h⟩ := h
    replace h := zref_i h
    obtain ⟨x, rfl, h⟩ := h
    intro ls H locs cells slots hnc hl hP hS hc hs
    exact lv_aload hx hb hd (hl.get hw rfl) (hk _ _ _ _ (leS.rf σ) h ls H locs cells slots hnc hl hP hS hc hs)
  case iload_n =>
    simp only [opk, Bool.and_eq_true, decide_eq_true_eq] at hok
    obtain ⟨hd, rfl, hv⟩ := hok
    replace hd := hne hd
    subst hv
    dsimp only [stp] at h
    replace h := zld_i h
    obtain ⟨w, hw, h⟩ := h
    replace h := zint_i h
    obtain ⟨x, rfl, h⟩ := h
    intro ls H locs cells slots hnc hl hP hS hc hs
    exact lv_iload_n hx hb hd rfl (hl.get hw rfl) (hk _ _ _ _ (leS.rf σ) h ls H locs cells slots hnc hl hP hS hc hs)
  case lload_n =>
    simp only [opk, Bool.and_eq_true, decide_eq_true_eq] at hok
    obtain ⟨hd, rfl, hv⟩ := hok
    replace hd := hne hd
    subst hv
    dsimp only [stp] at h
    replace h := zld_i h
    obtain ⟨w, hw, h⟩ := h
    replace h := zlon_i h
    obtain ⟨x, rfl, h⟩ := h
    intro ls H locs cells slots hnc hl hP hS hc hs
    exact lv_lload_n hx hb hd rfl (hl.get hw rfl) (hk _ _ _ _ (leS.rf σ) h ls H locs cells slots hnc hl hP hS hc hs)
  case aload_n =>
    simp only [opk, Bool.and_eq_true, decide_eq_true_eq] at hok
    obtain ⟨hd, rfl, hv⟩ := hok
    replace hd := hne hd
    subst hv
    dsimp only [stp] at h
    replace h := zld_i h
    obtain ⟨w, hw, h⟩ := h
    replace h := zref_i h
    obtain ⟨x, rfl, h⟩ := h
    intro ls H locs cells slots hnc hl hP hS hc hs
    exact lv_aload_n hx hb hd rfl (hl.get hw rfl) (hk _ _ _ _ (leS.rf σ) h ls H locs cells slots hnc hl hP hS hc hs)
  case istore =>
    simp only [opk, Bool.and_eq_true, decide_eq_true_eq] at hok
    obtain ⟨hd, rfl, hv⟩ := hok
    replace hd := hne hd
    subst hv
    dsimp only [stp] at h
    replace h := za1_i h
    obtain ⟨j, hj, h⟩ := h
    cases hj
    replace h := zi1_i h
    obtain ⟨x, t, rfl, h⟩ := h
    replace h := zst_i h
    obtain ⟨hjl, h⟩ := h
    intro ls H locs cells slots hnc hl hP hS hc hs
    rw [hl.1] at hjl
    refine lv_istore hx hb hd hl.2 hjl rfl (fun ls' hl' => ?_)
    exact hk _ _ _ _ (leS.rf σ) h ls' H locs cells slots hnc (lcO.st1 hjl hl.1 hl') hP hS hc hs
  case lstore =>
    simp only [opk, Bool.and_eq_true, decide_eq_true_eq] at hok
    obtain ⟨hd, rfl, hv⟩ := hok
    replace hd := hne hd
    subst hv
    dsimp only [stp] at h
    replace h := za1_i h
    obtain ⟨j, hj, h⟩ := h
    cases hj
    replace h := zp1_i h
    obtain ⟨w, t, rfl, h⟩ := h
    replace h := zlon_i h
    obtain ⟨x, rfl, h⟩ := h
    replace h := zst2_i h
    obtain ⟨hjl, h⟩ := h
    intro ls H locs cells slots hnc hl hP hS hc hs
    rw [hl.1] at hjl
    refine lv_lstore hx hb hd hl.2 hjl rfl (fun ls' hl' => ?_)
    exact hk _ _ _ _ (leS.rf σ) h ls' H locs cells slots hnc (lcO.st2 hjl hl.1 hl') hP hS hc hs
  case astore =>
    simp only [opk, Bool.and_eq_true, decide_eq_true_eq] at hok
    obtain ⟨hd, rfl, hv⟩ := hok
    replace hd := hne hd
    subst hv
    dsimp only [stp] at h
    replace h := za1_i h
    obtain ⟨j, hj, h⟩ := h
    cases hj
    replace h := zp1_i h
    obtain ⟨w, t, rfl, h⟩ := h
    replace h := zref_i h
    obtain ⟨x, rfl, h⟩ := h
    replace h := zst_i h
    obtain ⟨hjl, h⟩ := h
    intro ls H locs cells slots hnc hl hP hS hc hs
    rw [hl.1] at hjl
    refine lv_astore hx hb hd hl.2 hjl rfl (fun ls' hl' => ?_)
    exact hk _ _ _ _ (leS.rf σ) h ls' H locs cells slots hnc (lcO.st1 hjl hl.1 hl') hP hS hc hs
  case istore_n =>
    simp only [opk, Bool.and_eq_true, decide_eq_true_eq] at hok
    obtain ⟨hd, rfl, hv⟩ := hok
    replace hd := hne hd
    subst hv
    dsimp only [stp] at h
    replace h := za1_i h
    obtain ⟨j, hj, h⟩ := h
    cases hj
    replace h := zi1_i h
    obtain ⟨x, t, rfl, h⟩ := h
    replace h := zst_i h
    obtain ⟨hjl, h⟩ := h
    intro ls H locs cells slots hnc hl hP hS hc hs
    rw [hl.1] at hjl
    refine lv_istore_n hx hb hd rfl hl.2 hjl rfl (fun ls' hl' => ?_)
    exact hk _ _ _ _ (leS.rf σ) h ls' H locs cells slots hnc (lcO.st1 hjl hl.1 hl') hP hS hc hs
  case lstore_n =>
    simp only [opk, Bool.and_eq_true, decide_eq_true_eq] at hok
    obtain ⟨hd, rfl, hv⟩ := hok
    replace hd := hne hd
    subst hv
    dsimp only [stp] at h
    replace h := za1_i h
    obtain ⟨j, hj, h⟩ := h
    cases hj
    replace h := zp1_i h
    obtain ⟨w, t, rfl, h⟩ := h
    replace h := zlon_i h
    obtain ⟨x, rfl, h⟩ := h
    replace h := zst2_i h
    obtain ⟨hjl, h⟩ := h
    intro ls H locs cells slots hnc hl hP hS hc hs
    rw [hl.1] at hjl
    refine lv_lstore_n hx hb hd rfl hl.2 hjl rfl (fun ls' hl' => ?_)
    exact hk _ _ _ _ (leS.rf σ) h ls' H locs cells slots hnc (lcO.st2 hjl hl.1 hl') hP hS hc hs
  case astore_n =>
    simp only [opk, Bool.and_eq_true, decide_eq_true_eq] at hok
    obtain ⟨hd, rfl, hv⟩ := hok
    replace hd := hne hd
    subst hv
    dsimp only [stp] at h
    replace h := za1_i h
    obtain ⟨j, hj, h⟩ := h
    cases hj
    replace h := zp1_i h
    obtain ⟨w, t, rfl, h⟩ := h
    replace h := zref_i h
    obtain ⟨x, rfl, h⟩ := h
    replace h := zst_i h
    obtain ⟨hjl, h⟩ := h
    intro ls H locs cells slots hnc hl hP hS hc hs
    rw [hl.1] at hjl
    refine lv_astore_n hx hb hd rfl hl.2 hjl rfl (fun ls' hl' => ?_)
    exact hk _ _ _ _ (leS.rf σ) h ls' H locs cells slots hnc (lcO.st1 hjl hl.1 hl') hP hS hc hs
  case iinc y z =>
    simp only [opk, Bool.and_eq_true, decide_eq_true_eq] at hok
    obtain ⟨hd, rfl, rfl, hv⟩ := hok
    replace hd := hne hd
    dsimp only [stp] at h
    replace h := za1_i h
    obtain ⟨j, hj, h⟩ := h
    cases hj
    replace h := zld_i h
    obtain ⟨w, hw, h⟩ := h
    replace h := zint_i h
    obtain ⟨x, rfl, h⟩ := h
    replace h := zst_i h
    obtain ⟨hjl, h⟩ := h
    intro ls H locs cells slots hnc hl hP hS hc hs
    rw [hl.1] at hjl
    obtain ⟨kk, hkk⟩ := List.getElem?_of_mem (zlv_mem.mpr ⟨_, _, hw, (Nat.zero_add _).symm, rfl, rfl⟩ : (_, trV bs ra (.int x)) ∈ zlv bs ra 0 xs)
    refine lv_iinc (v := x + v) hx hb hd hl.2 hkk (by rw [hv]) hjl rfl (fun ls' hl' => ?_)
    exact hk _ _ _ _ (leS.rf σ) h ls' H locs cells slots hnc (lcO.st1 (v := .int (x + v)) hjl hl.1 hl') hP hS hc hs
  case iadd =>
    simp only [opk, Bool.and_eq_true, decide_eq_true_eq] at hok
    obtain ⟨hd, rfl⟩ := hok
    replace hd := hne hd
    replace h := zi2_i h
    obtain ⟨x, y, t, rfl, h⟩ := h
    intro ls H locs cells slots hnc hl hP hS hc hs
    exact lv_iadd hx hb hd (hk _ _ _ _ (leS.rf σ) h ls H locs cells slots hnc hl hP hS hc hs)
  case isub =>
    simp only [opk, Bool.and_eq_true, decide_eq_true_eq] at hok
    obtain ⟨hd, rfl⟩ := hok
    replace hd := hne hd
    replace h := zi2_i h
    obtain ⟨x, y, t, rfl, h⟩ := h
    intro ls H locs cells slots hnc hl hP hS hc hs
    exact lv_isub hx hb hd (hk _ _ _ _ (leS.rf σ) h ls H locs cells slots hnc hl hP hS hc hs)
  case imul =>
    simp only [opk, Bool.and_eq_true, decide_eq_true_eq] at hok
    obtain ⟨hd, rfl⟩ := hok
    replace hd := hne hd
    replace h := zi2_i h
    obtain ⟨x, y, t, rfl, h⟩ := h
    intro ls H locs cells slots hnc hl hP hS hc hs
    exact lv_imul hx hb hd (hk _ _ _ _ (leS.rf σ) h ls H locs cells slots hnc hl hP hS hc hs)
  case iand =>
    simp only [opk, Bool.and_eq_true, decide_eq_true_eq] at hok
    obtain ⟨hd, rfl⟩ := hok
    replace hd := hne hd
    replace h := zi2_i h
    obtain ⟨x, y, t, rfl, h⟩ := h
    intro ls H locs cells slots hnc hl hP hS hc hs
    exact lv_iand hx hb hd (hk _ _ _ _ (leS.rf σ) h ls H locs cells slots hnc hl hP hS hc hs)
  case ior =>
    simp only [opk, Bool.and_eq_true, decide_eq_true_eq] at hok
    obtain ⟨hd, rfl⟩ := hok
    replace hd := hne hd
    replace h := zi2_i h
    obtain ⟨x, y, t, rfl, h⟩ := h
    intro ls H locs cells slots hnc hl hP hS hc hs
    exact lv_ior hx hb hd (hk _ _ _ _ (leS.rf σ) h ls H locs cells slots hnc hl hP hS hc hs)
  case ixor =>
    simp only [opk, Bool.and_eq_true, decide_eq_true_eq] at hok
    obtain ⟨hd, rfl⟩ := hok
    replace hd := hne hd
    replace h := zi2_i h
    obtain ⟨x, y, t, rfl, h⟩ := h
    intro ls H locs cells slots hnc hl hP hS hc hs
    exact lv_ixor hx hb hd (hk _ _ _ _ (leS.rf σ) h ls H locs cells slots hnc hl hP hS hc hs)
  case ishl =>
    simp only [opk, Bool.and_eq_true, decide_eq_true_eq] at hok
    obtain ⟨hd, rfl⟩ := hok
    replace hd := hne hd
    replace h := zi2_i h
    obtain ⟨x, y, t, rfl, h⟩ := h
    intro ls H locs cells slots hnc hl hP hS hc hs
    exact lv_ishl hx hb hd (hk _ _ _ _ (leS.rf σ) h ls H locs cells slots hnc hl hP hS hc hs)
  case ishr =>
    simp only [opk, Bool.and_eq_true, decide_eq_true_eq] at hok
    obtain ⟨hd, rfl⟩ := hok
    replace hd := hne hd
    replace h := zi2_i h
    obtain ⟨x, y, t, rfl, h⟩ := h
    intro ls H locs cells slots hnc hl hP hS hc hs
    exact lv_ishr hx hb hd (hk _ _ _ _ (leS.rf σ) h ls H locs cells slots hnc hl hP hS hc hs)
  case iushr =>
    simp only [opk, Bool.and_eq_true, decide_eq_true_eq] at hok
    obtain ⟨hd, rfl⟩ := hok
    replace hd := hne hd
    replace h := zi2_i h
    obtain ⟨x, y, t, rfl, h⟩ := h
    intro ls H locs cells slots hnc hl hP hS hc hs
    exact lv_iushr hx hb hd rfl (hk _ _ _ _ (leS.rf σ) h ls H locs cells slots hnc hl hP hS hc hs)
  case ineg =>
    simp only [opk, Bool.and_eq_true, decide_eq_true_eq] at hok
    obtain ⟨hd, rfl⟩ := hok
    replace hd := hne hd
    replace h := zi1_i h
    obtain ⟨x, t, rfl, h⟩ := h
    intro ls H locs cells slots hnc hl hP hS hc hs
    exact lv_ineg hx hb hd (hk _ _ _ _ (leS.rf σ) h ls H locs cells slots hnc hl hP hS hc hs)
  case ladd =>
    simp only [opk, Bool.and_eq_true, decide_eq_true_eq] at hok
    obtain ⟨hd, rfl⟩ := hok
    replace hd := hne hd
    replace h := zl2_i h
    obtain ⟨x, y, t, rfl, h⟩ := h
    intro ls H locs cells slots hnc hl hP hS hc hs
    first | exact lv_ladd hx hb hd (hk _ _ _ _ (leS.rf σ) h ls H locs cells slots hnc hl hP hS hc hs) | exact lv_ladd hx hb hd rfl (hk _ _ _ _ (leS.rf σ) h ls H locs cells slots hnc hl hP hS hc hs)
  case lmul =>
    simp only [opk, Bool.and_eq_true, decide_eq_true_eq] at hok
    obtain ⟨hd, rfl⟩ := hok
    replace hd := hne hd
    replace h := zl2_i h
    obtain ⟨x, y, t, rfl, h⟩ := h
    intro ls H locs cells slots hnc hl hP hS hc hs
    first | exact lv_lmul hx hb hd (hk _ _ _ _ (leS.rf σ) h ls H locs cells slots hnc hl hP hS hc hs) | exact lv_lmul hx hb hd rfl (hk _ _ _ _ (leS.rf σ) h ls H locs cells slots hnc hl hP hS hc hs)
  case land =>
    simp only [opk, Bool.and_eq_true, decide_eq_true_eq] at hok
    obtain ⟨hd, rfl⟩ := hok
    replace hd := hne hd
    replace h := zl2_i h
    obtain ⟨x, y, t, rfl, h⟩ := h
    intro ls H locs cells slots hnc hl hP hS hc hs
    first | exact lv_land hx hb hd (hk _ _ _ _ (leS.rf σ) h ls H locs cells slots hnc hl hP hS hc hs) | exact lv_land hx hb hd rfl (hk _ _ _ _ (leS.rf σ) h ls H locs cells slots hnc hl hP hS hc hs)
  case lor =>
    simp only [opk, Bool.and_eq_true, decide_eq_true_eq] at hok
    obtain ⟨hd, rfl⟩ := hok
    replace hd := hne hd
    replace h := zl2_i h
    obtain ⟨x, y, t, rfl, h⟩ := h
    intro ls H locs cells slots hnc hl hP hS hc hs
    first | exact lv_lor hx hb hd (hk _ _ _ _ (leS.rf σ) h ls H locs cells slots hnc hl hP hS hc hs) | exact lv_lor hx hb hd rfl (hk _ _ _ _ (leS.rf σ) h ls H locs cells slots hnc hl hP hS hc hs)
  case lshl =>
    simp only [opk, Bool.and_eq_true, decide_eq_true_eq] at hok
    obtain ⟨hd, rfl⟩ := hok
    replace hd := hne hd
    replace h := zli_i h
    obtain ⟨x, y, t, rfl, h⟩ := h
    intro ls H locs cells slots hnc hl hP hS hc hs
    exact lv_lshl hx hb hd rfl (hk _ _ _ _ (leS.rf σ) h ls H locs cells slots hnc hl hP hS hc hs)
  case lshr =>
    simp only [opk, Bool.and_eq_true, decide_eq_true_eq] at hok
    obtain ⟨hd, rfl⟩ := hok
    replace hd := hne hd
    replace h := zli_i h
    obtain ⟨x, y, t, rfl, h⟩ := h
    intro ls H locs cells slots hnc hl hP hS hc hs
    exact lv_lshr hx hb hd rfl (hk _ _ _ _ (leS.rf σ) h ls H locs cells slots hnc hl hP hS hc hs)
  case lushr =>
    simp only [opk, Bool.and_eq_true, decide_eq_true_eq] at hok
    obtain ⟨hd, rfl⟩ := hok
    replace hd := hne hd
    replace h := zli_i h
    obtain ⟨x, y, t, rfl, h⟩ := h
    intro ls H locs cells slots hnc hl hP hS hc hs
    exact lv_lushr hx hb hd rfl (hk _ _ _ _ (leS.rf σ) h ls H locs cells slots hnc hl hP hS hc hs)
  case i2l =>
    simp only [opk, Bool.and_eq_true, decide_eq_true_eq] at hok
    obtain ⟨hd, rfl⟩ := hok
    replace hd := hne hd
    replace h := zi1_i h
    obtain ⟨x, t, rfl, h⟩ := h
    intro ls H locs cells slots hnc hl hP hS hc hs
    exact lv_i2l hx hb hd rfl (hk _ _ _ _ (leS.rf σ) h ls H locs cells slots hnc hl hP hS hc hs)
  case i2b =>
    simp only [opk, Bool.and_eq_true, decide_eq_true_eq] at hok
    obtain ⟨hd, rfl⟩ := hok
    replace hd := hne hd
    replace h := zi1_i h
    obtain ⟨x, t, rfl, h⟩ := h
    intro ls H locs cells slots hnc hl hP hS hc hs
    exact lv_i2b hx hb hd rfl (hk _ _ _ _ (leS.rf σ) h ls H locs cells slots hnc hl hP hS hc hs)
  case l2i =>
    simp only [opk, Bool.and_eq_true, decide_eq_true_eq] at hok
    obtain ⟨hd, rfl⟩ := hok
    replace hd := hne hd
    replace h := zp1_i h
    obtain ⟨w, t, rfl, h⟩ := h
    replace h := zlon_i h
    obtain ⟨x, rfl, h⟩ := h
    intro ls H locs cells slots hnc hl hP hS hc hs
    exact lv_l2i hx hb hd rfl (hk _ _ _ _ (leS.rf σ) h ls H locs cells slots hnc hl hP hS hc hs)
  case lcmp =>
    simp only [opk, Bool.and_eq_true, decide_eq_true_eq] at hok
    obtain ⟨hd, rfl⟩ := hok
    replace hd := hne hd
    replace h := zl2_i h
    obtain ⟨x, y, t, rfl, h⟩ := h
    intro ls H locs cells slots hnc hl hP hS hc hs
    exact W.lcmp hx hb hd (hk _ _ _ _ (leS.rf σ) h ls H locs cells slots hnc hl hP hS hc hs)
  case goto y =>
    simp only [opk, Bool.and_eq_true, decide_eq_true_eq] at hok
    obtain ⟨hd, hj⟩ := hok
    dsimp only [stp] at h
    replace h := za1_i h
    obtain ⟨tg, ha, h⟩ := h
    have ha : a = [tg] := ha
    obtain ⟨ht, rfl⟩ := j3k_i hj ha
    replace hd := hne hd
    intro ls H locs cells slots hnc hl hP hS hc hs
    exact lv_goto hx hb hd ht (hk _ _ _ _ (leS.rf σ) h ls H locs cells slots hnc hl hP hS hc hs)
  case ifCond cd y =>
    cases cd
    case eq =>
      simp only [opk, Bool.and_eq_true, decide_eq_true_eq] at hok
      obtain ⟨hd, hj⟩ := hok
      dsimp only [stp] at h
      replace h := za1_i h
      obtain ⟨tg, ha, h⟩ := h
      have ha : a = [tg] := ha
      obtain ⟨ht, rfl⟩ := j3k_i hj ha
      replace hd := hne hd
      replace h := zi1_i h
      obtain ⟨x, t, rfl, h⟩ := h
      intro ls H locs cells slots hnc hl hP hS hc hs
      refine lv_if_eq hx hb hd ht (fun z => ?_) (fun z => ?_)
      · rw [if_pos z] at h
        exact hk _ _ _ _ (leS.rf σ) h ls H locs cells slots hnc hl hP hS hc hs
      · rw [if_neg z] at h
        exact hk _ _ _ _ (leS.rf σ) h ls H locs cells slots hnc hl hP hS hc hs
    case ne =>
      simp only [opk, Bool.and_eq_true, decide_eq_true_eq] at hok
      obtain ⟨hd, hj⟩ := hok
      dsimp only [stp] at h
      replace h := za1_i h
      obtain ⟨tg, ha, h⟩ := h
      have ha : a = [tg] := ha
      obtain ⟨ht, rfl⟩ := j3k_i hj ha
      replace hd := hne hd
      replace h := zi1_i h
      obtain ⟨x, t, rfl, h⟩ := h
      intro ls H locs cells slots hnc hl hP hS hc hs
      refine lv_if_ne hx hb hd ht (fun z => ?_) (fun z => ?_)
      · rw [if_neg z] at h
        exact hk _ _ _ _ (leS.rf σ) h ls H locs cells slots hnc hl hP hS hc hs
      · rw [if_pos z] at h
        exact hk _ _ _ _ (leS.rf σ) h ls H locs cells slots hnc hl hP hS hc hs
    case lt =>
      simp only [opk, Bool.and_eq_true, decide_eq_true_eq] at hok
      obtain ⟨hd, hj⟩ := hok
      dsimp only [stp] at h
      replace h := za1_i h
      obtain ⟨tg, ha, h⟩ := h
      have ha : a = [tg] := ha
      obtain ⟨ht, rfl⟩ := j3k_i hj ha
      replace hd := hne hd
      replace h := zi1_i h
      obtain ⟨x, t, rfl, h⟩ := h
      intro ls H locs cells slots hnc hl hP hS hc hs
      refine lv_if_lt hx hb hd ht (fun z => ?_) (fun z => ?_)
      · rw [if_pos z] at h
        exact hk _ _ _ _ (leS.rf σ) h ls H locs cells slots hnc hl hP hS hc hs
      · rw [if_neg z] at h
        exact hk _ _ _ _ (leS.rf σ) h ls H locs cells slots hnc hl hP hS hc hs
    case ge =>
      simp only [opk, Bool.and_eq_true, decide_eq_true_eq] at hok
      obtain ⟨hd, hj⟩ := hok
      dsimp only [stp] at h
      replace h := za1_i h
      obtain ⟨tg, ha, h⟩ := h
      have ha : a = [tg] := ha
      obtain ⟨ht, rfl⟩ := j3k_i hj ha
      replace hd := hne hd
      replace h := zi1_i h
      obtain ⟨x, t, rfl, h⟩ := h
      intro ls H locs cells slots hnc hl hP hS hc hs
      refine lv_if_ge hx hb hd ht (fun z => ?_) (fun z => ?_)
      · rw [if_pos z] at h
        exact hk _ _ _ _ (leS.rf σ) h ls H locs cells slots hnc hl hP hS hc hs
      · rw [if_neg z] at h
        exact hk _ _ _ _ (leS.rf σ) h ls H locs cells slots hnc hl hP hS hc hs
    case gt =>
      simp only [opk, Bool.and_eq_true, decide_eq_true_eq] at hok
      obtain ⟨hd, hj⟩ := hok
      dsimp only [stp] at h
      replace h := za1_i h
      obtain ⟨tg, ha, h⟩ := h
      have ha : a = [tg] := ha
      obtain ⟨ht, rfl⟩ := j3k_i hj ha
      replace hd := hne hd
      replace h := zi1_i h
      obtain ⟨x, t, rfl, h⟩ := h
      intro ls H locs cells slots hnc hl hP hS hc hs
      refine lv_if_gt hx hb hd ht (fun z => ?_) (fun z => ?_)
      · rw [if_pos z] at h
        exact hk _ _ _ _ (leS.rf σ) h ls H locs cells slots hnc hl hP hS hc hs
      · rw [if_neg z] at h
        exact hk _ _ _ _ (leS.rf σ) h ls H locs cells slots hnc hl hP hS hc hs
    case le =>
      simp only [opk, Bool.and_eq_true, decide_eq_true_eq] at hok
      obtain ⟨hd, hj⟩ := hok
      dsimp only [stp] at h
      replace h := za1_i h
      obtain ⟨tg, ha, h⟩ := h
      have ha : a = [tg] := ha
      obtain ⟨ht, rfl⟩ := j3k_i hj ha
      replace hd := hne hd
      replace h := zi1_i h
      obtain ⟨x, t, rfl, h⟩ := h
      intro ls H locs cells slots hnc hl hP hS hc hs
      refine lv_if_le hx hb hd ht (fun z => ?_) (fun z => ?_)
      · rw [if_pos z] at h
        exact hk _ _ _ _ (leS.rf σ) h ls H locs cells slots hnc hl hP hS hc hs
      · rw [if_neg z] at h
        exact hk _ _ _ _ (leS.rf σ) h ls H locs cells slots hnc hl hP hS hc hs
  case if_icmp cd y =>
    cases cd
    case eq =>
      simp only [opk, Bool.and_eq_true, decide_eq_true_eq] at hok
      obtain ⟨hd, hj⟩ := hok
      dsimp only [stp] at h
      replace h := za1_i h
      obtain ⟨tg, ha, h⟩ := h
      have ha : a = [tg] := ha
      obtain ⟨ht, rfl⟩ := j3k_i hj ha
      replace hd := hne hd
      replace h := zi2_i h
      obtain ⟨x, y, t, rfl, h⟩ := h
      intro ls H locs cells slots hnc hl hP hS hc hs
      refine lv_icmp_eq hx hb hd ht (fun z => ?_) (fun z => ?_)
      · rw [if_pos z] at h
        exact hk _ _ _ _ (leS.rf σ) h ls H locs cells slots hnc hl hP hS hc hs
      · rw [if_neg z] at h
        exact hk _ _ _ _ (leS.rf σ) h ls H locs cells slots hnc hl hP hS hc hs
    case ne =>
      simp only [opk, Bool.and_eq_true, decide_eq_true_eq] at hok
      obtain ⟨hd, hj⟩ := hok
      dsimp only [stp] at h
      replace h := za1_i h
      obtain ⟨tg, ha, h⟩ := h
      have ha : a = [tg] := ha
      obtain ⟨ht, rfl⟩ := j3k_i hj ha
      replace hd := hne hd
      replace h := zi2_i h
      obtain ⟨x, y, t, rfl, h⟩ := h
      intro ls H locs cells slots hnc hl hP hS hc hs
      refine lv_icmp_ne hx hb hd ht (fun z => ?_) (fun z => ?_)
      · rw [if_neg z] at h
        exact hk _ _ _ _ (leS.rf σ) h ls H locs cells slots hnc hl hP hS hc hs
      · rw [if_pos z] at h
        exact hk _ _ _ _ (leS.rf σ) h ls H locs cells slots hnc hl hP hS hc hs
    case lt =>
      simp only [opk, Bool.and_eq_true, decide_eq_true_eq] at hok
      obtain ⟨hd, hj⟩ := hok
      dsimp only [stp] at h
      replace h := za1_i h
      obtain ⟨tg, ha, h⟩ := h
      have ha : a = [tg] := ha
      obtain ⟨ht, rfl⟩ := j3k_i hj ha
      replace hd := hne hd
      replace h := zi2_i h
      obtain ⟨x, y, t, rfl, h⟩ := h
      intro ls H locs cells slots hnc hl hP hS hc hs
      refine lv_icmp_lt hx hb hd ht (fun z => ?_) (fun z => ?_)
      · rw [if_pos z] at h
        exact hk _ _ _ _ (leS.rf σ) h ls H locs cells slots hnc hl hP hS hc hs
      · rw [if_neg z] at h
        exact hk _ _ _ _ (leS.rf σ) h ls H locs cells slots hnc hl hP hS hc hs
    case ge =>
      simp only [opk, Bool.and_eq_true, decide_eq_true_eq] at hok
      obtain ⟨hd, hj⟩ := hok
      dsimp only [stp] at h
      replace h := za1_i h
      obtain ⟨tg, ha, h⟩ := h
      have ha : a = [tg] := ha
      obtain ⟨ht, rfl⟩ := j3k_i hj ha
      replace hd := hne hd
      replace h := zi2_i h
      obtain ⟨x, y, t, rfl, h⟩ := h
      intro ls H locs cells slots hnc hl hP hS hc hs
      refine lv_icmp_ge hx hb hd ht (fun z => ?_) (fun z => ?_)
      · rw [if_pos z] at h
        exact hk _ _ _ _ (leS.rf σ) h ls H locs cells slots hnc hl hP hS hc hs
      · rw [if_neg z] at h
        exact hk _ _ _ _ (leS.rf σ) h ls H locs cells slots hnc hl hP hS hc hs
    case gt =>
      simp only [opk, Bool.and_eq_true, decide_eq_true_eq] at hok
      obtain ⟨hd, hj⟩ := hok
      dsimp only [stp] at h
      replace h := za1_i h
      obtain ⟨tg, ha, h⟩ := h
      have ha : a = [tg] := ha
      obtain ⟨ht, rfl⟩ := j3k_i hj ha
      replace hd := hne hd
      replace h := zi2_i h
      obtain ⟨x, y, t, rfl, h⟩ := h
      intro ls H locs cells slots hnc hl hP hS hc hs
      refine lv_icmp_gt hx hb hd ht (fun z => ?_) (fun z => ?_)
      · rw [if_pos z] at h
        exact hk _ _ _ _ (leS.rf σ) h ls H locs cells slots hnc hl hP hS hc hs
      · rw [if_neg z] at h
        exact hk _ _ _ _ (leS.rf σ) h ls H locs cells slots hnc hl hP hS hc hs
    case le =>
      simp only [opk, Bool.and_eq_true, decide_eq_true_eq] at hok
      obtain ⟨hd, hj⟩ := hok
      dsimp only [stp] at h
      replace h := za1_i h
      obtain ⟨tg, ha, h⟩ := h
      have ha : a = [tg] := ha
      obtain ⟨ht, rfl⟩ := j3k_i hj ha
      replace hd := hne hd
      replace h := zi2_i h
      obtain ⟨x, y, t, rfl, h⟩ := h
      intro ls H locs cells slots hnc hl hP hS hc hs
      refine lv_icmp_le hx hb hd ht (fun z => ?_) (fun z => ?_)
      · rw [if_pos z] at h
        exact hk _ _ _ _ (leS.rf σ) h ls H locs cells slots hnc hl hP hS hc hs
      · rw [if_neg z] at h
        exact hk _ _ _ _ (leS.rf σ) h ls H locs cells slots hnc hl hP hS hc hs
  case if_acmp cd y =>
    cases cd
    case eq =>
      simp only [opk, Bool.and_eq_true, decide_eq_true_eq] at hok
      obtain ⟨hd, hj⟩ := hok
      dsimp only [stp] at h
      replace h := za1_i h
      obtain ⟨tg, ha, h⟩ := h
      have ha : a = [tg] := ha
      obtain ⟨ht, rfl⟩ := j3k_i hj ha
      replace hd := hne hd
      replace h := zp2_i h
      obtain ⟨u, w, t, rfl, h⟩ := h
      replace h := znuk_i h
      obtain ⟨o1, rfl, q1, h⟩ := h
      replace h := znuk_i h
      obtain ⟨o2, rfl, q2, h⟩ := h
      intro ls H locs cells slots hnc hl hP hS hc hs
      rw [List.map_cons, List.map_cons, trV_zr, trV_zr]
      refine lv_acmp_eq hx hb hd ht (fun z => ?_) (fun z => ?_)
      · rw [if_pos ((acmp_tr Fr0 q1 q2).mp z)] at h
        exact hk _ _ _ _ (leS.rf σ) h ls H locs cells slots hnc hl hP hS hc hs
      · rw [if_neg (fun zz => z ((acmp_tr Fr0 q1 q2).mpr zz))] at h
        exact hk _ _ _ _ (leS.rf σ) h ls H locs cells slots hnc hl hP hS hc hs
    case ne =>
      simp only [opk, Bool.and_eq_true, decide_eq_true_eq] at hok
      obtain ⟨hd, hj⟩ := hok
      dsimp only [stp] at h
      replace h := za1_i h
      obtain ⟨tg, ha, h⟩ := h
      have ha : a = [tg] := ha
      obtain ⟨ht, rfl⟩ := j3k_i hj ha
      replace hd := hne hd
      replace h := zp2_i h
      obtain ⟨u, w, t, rfl, h⟩ := h
      replace h := znuk_i h
      obtain ⟨o1, rfl, q1, h⟩ := h
      replace h := znuk_i h
      obtain ⟨o2, rfl, q2, h⟩ := h
      intro ls H locs cells slots hnc hl hP hS hc hs
      rw [List.map_cons, List.map_cons, trV_zr, trV_zr]
      refine lv_acmp_ne hx hb hd ht (fun z => ?_) (fun z => ?_)
      · rw [if_neg (fun zz => z ((acmp_tr Fr0 q1 q2).mpr zz))] at h
        exact hk _ _ _ _ (leS.rf σ) h ls H locs cells slots hnc hl hP hS hc hs
      · rw [if_pos ((acmp_tr Fr0 q1 q2).mp z)] at h
        exact hk _ _ _ _ (leS.rf σ) h ls H locs cells slots hnc hl hP hS hc hs
  case ifnull y =>
    simp only [opk, Bool.and_eq_true, decide_eq_true_eq] at hok
    obtain ⟨hd, hj⟩ := hok
    dsimp only [stp] at h
    replace h := za1_i h
    obtain ⟨tg, ha, h⟩ := h
    have ha : a = [tg] := ha
    obtain ⟨ht, rfl⟩ := j3k_i hj ha
    replace hd := hne hd
    replace h := zp1_i h
    obtain ⟨u, t, rfl, h⟩ := h
    replace h := znul_i h
    obtain ⟨o1, rfl, h⟩ := h
    intro ls H locs cells slots hnc hl hP hS hc hs
    cases o1 with
    | none => exact lv_ifnullN hx hb hd ht (hk _ _ _ _ (leS.rf σ) h ls H locs cells slots hnc hl hP hS hc hs)
    | some q => exact lv_ifnull hx hb hd (hk _ _ _ _ (leS.rf σ) h ls H locs cells slots hnc hl hP hS hc hs)
  case ifnonnull y =>
    simp only [opk, Bool.and_eq_true, decide_eq_true_eq] at hok
    obtain ⟨hd, hj⟩ := hok
    dsimp only [stp] at h
    replace h := za1_i h
    obtain ⟨tg, ha, h⟩ := h
    have ha : a = [tg] := ha
    obtain ⟨ht, rfl⟩ := j3k_i hj ha
    replace hd := hne hd
    replace h := zp1_i h
    obtain ⟨u, t, rfl, h⟩ := h
    replace h := znul_i h
    obtain ⟨o1, rfl, h⟩ := h
    intro ls H locs cells slots hnc hl hP hS hc hs
    cases o1 with
    | none => exact lv_ifnonnullN hx hb hd (hk _ _ _ _ (leS.rf σ) h ls H locs cells slots hnc hl hP hS hc hs)
    | some q => exact lv_ifnonnull hx hb hd ht (hk _ _ _ _ (leS.rf σ) h ls H locs cells slots hnc hl hP hS hc hs)
  case tableswitch df lo hi of =>
    simp only [opk, Bool.and_eq_true, decide_eq_true_eq] at hok
    obtain ⟨hd, hv⟩ := hok
    split at hv
    case h_2 => cases hv
    rename_i t0 ts
    simp only [Bool.and_eq_true, decide_eq_true_eq] at hv
    obtain ⟨h1, rfl, h3, h30, h4⟩ := hv
    dsimp only [stp] at h
    replace h := zi1_i h
    obtain ⟨x, t, rfl, h⟩ := h
    intro ls H locs cells slots hnc hl hP hS hc hs
    have hlen : of.toList.length = ts.length := by
      have := congrArg List.length h4
      simpa using this
    rcases zsw_i h with ⟨j, tj, hj, hxj, hh⟩ | ⟨hno, hh⟩
    · have hjl : j < ts.length := (List.getElem?_eq_some_iff.mp hj).1
      rw [Nat.zero_add] at hxj
      have hxi : x.toInt = (j : Int) := by rw [hxj]; exact nI_toInt (by omega)
      obtain ⟨o, ho⟩ : ∃ o, of.toList[j]? = some o := ⟨_, List.getElem?_eq_getElem (by omega)⟩
      have h5 : (of.toList.map (fun o => (pc : Int) + o))[j]? = (ts.map Int.ofNat)[j]? := by rw [h4]
      rw [List.getElem?_map, List.getElem?_map, ho, hj] at h5
      have h6 : (pc : Int) + o = (tj : Int) := Option.some.inj h5
      exact lv_tableIn hx hb hd (by rw [hxi]; omega) (by rw [hxi]; omega) (off := o) (by rw [hxi]; simpa using ho) h6 (hk _ _ _ _ (leS.rf σ) hh ls H locs cells slots hnc hl hP hS hc hs)
    · refine lv_tableOut hx hb hd ?_ h1 (hk _ _ _ _ (leS.rf σ) hh ls H locs cells slots hnc hl hP hS hc hs)
      by_cases h7 : x.toInt < 0
      · exact Or.inl h7
      · refine Or.inr ?_
        by_cases h8 : x.toInt < (ts.length : Int)
        · exfalso
          have h9 : x.toInt.toNat < ts.length := by omega
          refine hno _ h9 ?_
          rw [Nat.zero_add]
          apply Int32.toInt_inj.mp
          rw [show (nI x.toInt.toNat).toInt = (x.toInt.toNat : Int) from nI_toInt (by omega)]
          omega
        · omega
  case getfield y =>
    simp only [opk, Bool.and_eq_true, decide_eq_true_eq] at hok
    obtain ⟨hd, rfl, hv⟩ := hok
    replace hd := hne hd
    exact snd_get (n := 0) Fr0 hd hv hk h
  case putfield y =>
    simp only [opk, Bool.and_eq_true, decide_eq_true_eq] at hok
    obtain ⟨hd, rfl, hv⟩ := hok
    replace hd := hne hd
    exact snd_put Fr0 hini hd hv hk h
  case laload =>
    simp only [opk, Bool.and_eq_true, decide_eq_true_eq] at hok
    obtain ⟨hd, rfl⟩ := hok
    replace hd := hne hd
    exact snd_lal Fr0 hd hk h
  case baload =>
    simp only [opk, Bool.and_eq_true, decide_eq_true_eq] at hok
    obtain ⟨hd, rfl⟩ := hok
    replace hd := hne hd
    exact snd_bal Fr0 hd hk h
  case iastore =>
    simp only [opk, Bool.and_eq_true, decide_eq_true_eq] at hok
    obtain ⟨hd, rfl⟩ := hok
    replace hd := hne hd
    exact snd_ias Fr0 hd hk h
  case bastore =>
    simp only [opk, Bool.and_eq_true, decide_eq_true_eq] at hok
    obtain ⟨hd, rfl⟩ := hok
    replace hd := hne hd
    exact snd_bas Fr0 hd hk h
  case lastore =>
    simp only [opk, Bool.and_eq_true, decide_eq_true_eq] at hok
    obtain ⟨hd, rfl⟩ := hok
    replace hd := hne hd
    exact snd_las Fr0 hd hk h
  case iaload =>
    simp only [opk, Bool.and_eq_true, decide_eq_true_eq] at hok
    obtain ⟨hd, rfl⟩ := hok
    replace hd := hne hd
    dsimp only [stp] at h
    cases a with
    | nil => exact snd_ial Fr0 hd hk h
    | cons a0 a1 =>
      replace h := zp2_i h
      obtain ⟨u, w, t, rfl, h⟩ := h
      replace h := zref_i h
      obtain ⟨q, rfl, h⟩ := h
      replace h := zint_i h
      obtain ⟨i, rfl, h⟩ := h
      replace h := bif_i h
      obtain ⟨hq, h⟩ := h
      replace h := zidx_i h
      obtain ⟨h1, h2, h⟩ := h
      have hq := Nat.eq_of_beq_eq_true hq
      subst hq
      intro ls H locs cells slots hnc hl hP hS hc hs
      show W p l e R s m args below meth c H locs cells slots Q (F0 m pc ls (.int i :: .ref (trN bs ra 2000) :: t.map (trV bs ra)))
      rw [trN_ge (by decide)]
      exact va_sld hx hb hST.2.1 (Nat.lt_of_lt_of_le hST.2.2.1 hbs) (Nat.not_le.mpr hST.2.2.1) hS (fun z => z.elim (fun z => absurd h1 (Int32.not_le.mpr z)) (fun z => by omega)) hd (hk _ _ _ _ (leS.rf σ) h ls H locs cells slots hnc hl hP hS hc hs)
  case aaload =>
    simp only [opk, Bool.and_eq_true, decide_eq_true_eq] at hok
    obtain ⟨hd, rfl⟩ := hok
    replace hd := hne hd
    dsimp only [stp] at h
    have h2 : (∃ t, a = 23 :: t) ∨ (∃ t, a = 24 :: t) ∨ ((∀ t, a ≠ 23 :: t) ∧ (∀ t, a ≠ 24 :: t)) := by
      by_cases q1 : ∃ t, a = 23 :: t
      · exact Or.inl q1
      · by_cases q2 : ∃ t, a = 24 :: t
        · exact Or.inr (Or.inl q2)
        · exact Or.inr (Or.inr ⟨fun t z => q1 ⟨t, z⟩, fun t z => q2 ⟨t, z⟩⟩)
    rcases h2 with ⟨t, rfl⟩ | ⟨t, rfl⟩ | ⟨q1, q2⟩
    · exact snd_aal23 Fr0 hd hk h
    · exact snd_aal24 Fr0 hd hk h
    · refine snd_aal25 Fr0 hd hk (h ▸ ?_)
      congr 1
      funext v w t
      congr 1
      funext q
      congr 1
      funext i
      split
      · exact absurd rfl (q1 _)
      · exact absurd rfl (q2 _)
      · rfl
  case aastore =>
    simp only [opk, Bool.and_eq_true, decide_eq_true_eq] at hok
    obtain ⟨hd, rfl⟩ := hok
    replace hd := hne hd
    dsimp only [stp] at h
    have h2 : (∃ t, a = 24 :: t) ∨ (∀ t, a ≠ 24 :: t) := by
      by_cases q1 : ∃ t, a = 24 :: t
      · exact Or.inl q1
      · exact Or.inr (fun t z => q1 ⟨t, z⟩)
    rcases h2 with ⟨t, rfl⟩ | q1
    · exact snd_aas24 Fr0 hd hk h
    · refine snd_aas25 Fr0 hd hk (h ▸ ?_)
      congr 1
      funext u v w t
      congr 1
      funext q
      congr 1
      funext i
      congr 1
      funext x
      split
      · exact absurd rfl (q1 _)
      · rfl
  case arraylength =>
    simp only [opk, Bool.and_eq_true, decide_eq_true_eq] at hok
    obtain ⟨hd, rfl⟩ := hok
    replace hd := hne hd
    dsimp only [stp] at h
    cases a with
    | nil => exact snd_alen Fr0 hd hk h
    | cons a0 a1 =>
      replace h := zp1_i h
      obtain ⟨u, t, rfl, h⟩ := h
      replace h := zref_i h
      obtain ⟨q, rfl, h⟩ := h
      replace h := bif_i h
      obtain ⟨hq, h⟩ := h
      have hq := Nat.eq_of_beq_eq_true hq
      subst hq
      intro ls H locs cells slots hnc hl hP hS hc hs
      show W p l e R s m args below meth c H locs cells slots Q (F0 m pc ls (.ref (trN bs ra 2000) :: t.map (trV bs ra)))
      rw [trN_ge (by decide)]
      exact va_slen hx hb hST.2.1 (Nat.lt_of_lt_of_le hST.2.2.1 hbs) (Nat.not_le.mpr hST.2.2.1) hS hd (hk _ _ _ _ (leS.rf σ) h ls H locs cells slots hnc hl hP hS hc hs)
  case dup =>
    simp only [opk, Bool.and_eq_true, decide_eq_true_eq] at hok
    obtain ⟨hd, rfl⟩ := hok
    replace hd := hne hd
    dsimp only [stp] at h
    replace h := zp1_i h
    obtain ⟨u, t, rfl, h⟩ := h
    replace h := zdup_i h
    obtain ⟨hcat, h⟩ := h
    intro ls H locs cells slots hnc hl hP hS hc hs
    exact lv_dup hx hb hd (by rw [trV_cat]; exact hcat) (hk _ _ _ _ (leS.rf σ) h ls H locs cells slots hnc hl hP hS hc hs)
  case dup2 =>
    simp only [opk, Bool.and_eq_true, decide_eq_true_eq] at hok
    obtain ⟨hd, rfl⟩ := hok
    replace hd := hne hd
    dsimp only [stp] at h
    replace h := zp2_i h
    obtain ⟨u, w, t, rfl, h⟩ := h
    replace h := zref_i h
    obtain ⟨q, rfl, h⟩ := h
    replace h := zint_i h
    obtain ⟨i, rfl, h⟩ := h
    intro ls H locs cells slots hnc hl hP hS hc hs
    exact lv_dup2_11 hx hb hd rfl rfl (hk _ _ _ _ (leS.rf σ) h ls H locs cells slots hnc hl hP hS hc hs)
  case pop =>
    simp only [opk, Bool.and_eq_true, decide_eq_true_eq] at hok
    obtain ⟨hd, rfl⟩ := hok
    replace hd := hne hd
    replace h := zi1_i h
    obtain ⟨x, t, rfl, h⟩ := h
    intro ls H locs cells slots hnc hl hP hS hc hs
    exact lv_pop hx hb hd rfl (hk _ _ _ _ (leS.rf σ) h ls H locs cells slots hnc hl hP hS hc hs)
  case new y =>
    simp only [opk, Bool.and_eq_true, decide_eq_true_eq] at hok
    obtain ⟨hd, rfl, hv⟩ := hok
    replace hd := hne hd
    split at hv
    case h_2 => cases hv
    rename_i ci nn w
    split at hv
    case h_2 => cases hv
    rename_i q hq
    simp only [Bool.and_eq_true, decide_eq_true_eq] at hv
    exact snd_new Fr0 hd hq hv.1 (lwk_m hv.2.1) (lwk_m hv.2.2.1) (lwk_m hv.2.2.2) hR hsz hk1 hk h
  case newarray ty =>
    cases ty
    all_goals try (simp [opk] at hok; done)
    case int =>
      simp only [opk, Bool.and_eq_true, decide_eq_true_eq] at hok
      obtain ⟨hd, rfl, rfl⟩ := hok
      replace hd := hne hd
      refine snd_newa (ci := 20) (i := 0) (ty := .int) (a0 := fun n => (n, .inl fun _ => 0)) Fr0 hd rfl hac.1 rfl (fun C z => by cases z) (by decide) (fun n cX => ?_) (fun n hz hn => ?_) (by decide) hR hsz hRs hk1 hk h
      · rfl
      · rw [cl20 hz, hn]
        obtain ⟨e1, e2, e3, e4⟩ := nwS_eq (σ := σ) (n := n)
        rw [e3]
    case long =>
      simp only [opk, Bool.and_eq_true, decide_eq_true_eq] at hok
      obtain ⟨hd, rfl, rfl⟩ := hok
      replace hd := hne hd
      refine snd_newa (ci := 21) (i := 1) (ty := .long) (a0 := fun n => (n, .inr (.inl fun _ => 0))) Fr0 hd rfl hac.2.1 rfl (fun C z => by cases z) (by decide) (fun n cX => ?_) (fun n hz hn => ?_) (by decide) hR hsz hRs hk1 hk h
      · rfl
      · rw [cl21 hz, hn]
        obtain ⟨e1, e2, e3, e4⟩ := nwS_eq (σ := σ) (n := n)
        rw [e4]
    case byte =>
      simp only [opk, Bool.and_eq_true, decide_eq_true_eq] at hok
      obtain ⟨hd, rfl, rfl⟩ := hok
      replace hd := hne hd
      refine snd_newa (ci := 22) (i := 2) (ty := .byte) (a0 := fun n => (n, .inl fun _ => 0)) Fr0 hd rfl hac.2.2 rfl (fun C z => by cases z) (by decide) (fun n cX => ?_) (fun n hz hn => ?_) (by decide) hR hsz hRs hk1 hk h
      · rfl
      · rw [cl22 hz, hn]
        obtain ⟨e1, e2, e3, e4⟩ := nwS_eq (σ := σ) (n := n)
        rw [e3]
  case anewarray y =>
    simp only [opk, Bool.and_eq_true, decide_eq_true_eq] at hok
    obtain ⟨hd, rfl, hv⟩ := hok
    replace hd := hne hd
    split at hv
    case h_3 => cases hv
    · rename_i w
      refine snd_anew (ci := 24) (i := 4) Fr0 hd (lwk_m hv) hAO.1 rfl (fun n hz hn => ?_) (by decide) hR hsz hRs hk1 hk h
      rw [cl24 hz, hn]
      obtain ⟨e1, e2, e3, e4⟩ := nwS_eq (σ := σ) (n := n)
      rw [e1]
      rfl
    · rename_i w
      refine snd_anew (ci := 25) (i := 5) Fr0 hd (lwk_m hv) hAO.2 rfl (fun n hz hn => ?_) (by decide) hR hsz hRs hk1 hk h
      rw [cl25 hz, hn]
      obtain ⟨e1, e2, e3, e4⟩ := nwS_eq (σ := σ) (n := n)
      rw [e2]
      rfl
  case multianewarray y dm =>
    simp only [opk, Bool.and_eq_true, decide_eq_true_eq] at hok
    obtain ⟨hd, rfl, rfl, hv⟩ := hok
    replace hd := hne hd
    split at hv
    case h_2 => cases hv
    exact hmna _ _ hv hd h
  case invokevirtual y =>
    simp only [opk, Bool.and_eq_true, decide_eq_true_eq] at hok
    obtain ⟨hd, rfl, hv⟩ := hok
    replace hd := hne hd
    exact hcal 1 _ _ (by decide) hv hd h
  case invokestatic y =>
    simp only [opk, Bool.and_eq_true, decide_eq_true_eq] at hok
    obtain ⟨hd, rfl, hv⟩ := hok
    replace hd := hne hd
    exact hcal 0 _ _ (by decide) hv hd h
  case invokespecial y =>
    simp only [opk, Bool.and_eq_true, decide_eq_true_eq] at hok
    obtain ⟨hd, rfl, hv⟩ := hok
    replace hd := hne hd
    exact hcal 2 _ _ (by decide) hv hd h
  case ireturn =>
    exact absurd (show true = false from hnr) (by decide)
  case lreturn =>
    exact absurd (show true = false from hnr) (by decide)
  case areturn =>
    exact absurd (show true = false from hnr) (by decide)
  case return_ =>
    exact absurd (show true = false from hnr) (by decide)
end MAIN
