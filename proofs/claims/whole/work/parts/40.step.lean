theorem asg_rf (vm : Vm) (f : Nat) (c : ClassId) : vm.assignableAux (f + 1) c c = true := by
  unfold Vm.assignableAux
  rw [beq_self_eq_true, Bool.true_or]
section AST
variable {bs : Nat} {ra : Nat → Nat} {cA : Nat → ClassId} {dC : Nat → ClassId} {dI : Nat → Nat → Nat} {ρ : Nat × (Nat → Int32)} {X : State → Heap → Prop}
variable {p : Program} {l : Launch} {e : Env} {R : Room} {s : State} {m : MethodId} {args : Array Value} {below : List Frame} {meth : Method} {c : Code} {cc : ByteArray} {own : String} {nL : Nat} {Q : State → Prop} {c0 s0 : Nat} {k : Kn} {r : List Value × Sg}
theorem snd_anew (F : Fr bs ra cA dC dI ρ X p s m args c cc own nL) {pc ci i x : Nat} {C : String} {xs st : List Value} {σ : Sg} (hd : decode cc pc = .ok (.anewarray x, 3)) (hw : Cond.classLink own x C ∈ lw_tbl) (hAO : va_AO C s) (hti : (tyz cA)[i]? = some (cA ci, .object C))
    (hcel : ∀ n, zC σ.1.1 = ci → zN σ.1.1 = n → cel bs ra cA (nwS σ n) σ.1.1 = .inl (cA ci, n, .inr (.inr (.inr (.inr fun _ => none))))) (hci : ci < 99)
    (hR : r.2.1.1 + r.2.1.2.1 ≤ R.cells + c0 ∧ r.2.1.2.2 ≤ R.slots + s0) (hsz : s.heap.size ≤ bs + c0) (hRs : r.2.1.2.2 ≤ 60000000)
    (hk1 : ∀ n ys t τ, k n ys t τ = some r → leS τ r.2) (hk : ∀ n ys t τ, leS σ τ → k n ys t τ = some r → Gl bs ra cA dC dI p l e R s m args below meth c nL Q c0 s0 n ys t τ)
    (h : zi1 st (fun x t => if 0 ≤ x then znew zC zN σ ci x.toNatClampNeg (fun q τ => k (pc + 3) xs (.ref q :: t) τ) else none) = some r) : Gl bs ra cA dC dI p l e R s m args below meth c nL Q c0 s0 pc xs st σ := by
  obtain ⟨hx, hb, hml, hown, hts, hK, hST, hbs⟩ := F
  intro ls H locs cells slots hnc0 hl hP hS hc hs
  replace h := zi1_i h
  obtain ⟨x, t, rfl, h⟩ := h
  replace h := ite_i h
  obtain ⟨hx1, h⟩ := h
  replace h := znew_i h
  obtain ⟨hx0, hzc, hzn, -, h⟩ := h
  obtain ⟨⟨hr1, hr2⟩, fin⟩ := new_go (st := t) hR hsz hx0 hk1 hk (nc_of hzc hci) hl hc hs h
  have h3 : σ.1.2.2 + x.toNatClampNeg ≤ r.2.1.2.2 := (hk1 _ _ _ _ h).2.1
  have hbyt : x.toNatClampNeg * 4 ≤ 536870912 := by omega
  refine va_newq (D := (dC, dI)) hx hb hown (hts _ (gd_in hw rfl)) hAO hK hP wsO_D hS (fun q h => Nat.le_trans hbs h) (Int32.not_lt.mpr hx1) rfl hbyt hr1 hr2 hd (fun q cX H1 hK1 hP1 hD1 hS1 => ?_)
  have e : cX = cA ci := by
    refine cls_eqo hK1 (i := (tyz cA).length) (j := i) (by rw [List.getElem?_append_right (Nat.le_refl _), Nat.sub_self]; rfl) ?_
    rw [List.getElem?_append_left (List.getElem?_eq_some_iff.mp hti).1]
    exact hti
  subst e
  exact fin q _ H1 hP1 hD1 hS1 (hcel _ hzc hzn).symm
theorem snd_aas24 (F : Fr bs ra cA dC dI ρ X p s m args c cc own nL) {pc : Nat} {xs st : List Value} {σ : Sg} (hd : decode cc pc = .ok (.aastore, 1))
    (hk : ∀ n ys t τ, leS σ τ → k n ys t τ = some r → Gl bs ra cA dC dI p l e R s m args below meth c nL Q c0 s0 n ys t τ)
    (h : zp3 st (fun u v w t => zref u fun q => zint v fun i => zref w fun x => zobj zC σ x 0 (zarr zC zN σ q 24 i fun j => k (pc + 1) xs t (σ.1, z2 σ.2.1 q j (some x), σ.2.2.1, σ.2.2.2.1, σ.2.2.2.2))) = some r) : Gl bs ra cA dC dI p l e R s m args below meth c nL Q c0 s0 pc xs st σ := by
  obtain ⟨hx, hb, hml, hown, hts, hK, hST, hbs⟩ := F
  intro ls H locs cells slots hnc hl hP hS hc hs
  replace h := zp3_i h
  obtain ⟨u, v, w, t, rfl, h⟩ := h
  replace h := zref_i h
  obtain ⟨q, rfl, h⟩ := h
  replace h := zint_i h
  obtain ⟨i, rfl, h⟩ := h
  replace h := zref_i h
  obtain ⟨x, rfl, h⟩ := h
  replace h := zobj_i h
  obtain ⟨hx1, hx2, h⟩ := h
  replace h := zarr_i h
  obtain ⟨hq, hqc, hin, h⟩ := h
  have hq2 : q < NC := Nat.lt_of_lt_of_le hq hnc
  show W p l e R s m args below meth c H locs cells slots Q (F0 m pc ls (.ref (trN bs ra x) :: .int i :: .ref (trN bs ra q) :: t.map (trV bs ra)))
  rw [trN_lt (nc1000 hq2), trN_lt (nc1000 (Nat.lt_of_lt_of_le hx1 hnc))]
  refine va_astq (D := (dC, dI)) hx hb hK hP wsO_D hS q 4 x 0 (cA := cA 24) (n := zN q) (r := (R0, T0, 19)) (f := fun j => (σ.2.1 q j).map (trN bs ra)) (wc24 hq hqc) rfl (by rw [wsO_get hx1, cel_obj hx2 (by decide)]) rfl hin hd (fun H1 locs1 hP1 _ hS1 => ?_)
  refine hk _ _ _ _ (by exact leS.sm rfl) h ls H1 locs1 cells slots hnc hl ?_ hS1 hc hs
  refine arr_ws hP1 rfl (fun i hi => ⟨z2_ne hi, rfl, rfl, rfl⟩) ?_
  rw [cl24 hqc]
  dsimp only
  rw [z2_eq]
  congr 7
  funext j
  unfold va_up
  split
  · show some (trN bs ra x) = _
    rw [trN_lt (nc1000 (Nat.lt_of_lt_of_le hx1 hnc))]
  · rfl
theorem key_ra (F : Fr bs ra cA dC dI ρ X p s m args c cc own nL) {x : Nat} (h1 : 1000 ≤ x) (h2 : x ≤ 1009) : ∃ i, i < zkn.length ∧ x = 1000 + i ∧ trN bs ra x = ra (1000 + i) := by
  refine ⟨x - 1000, ?_, by omega, ?_⟩
  · show x - 1000 < 10
    omega
  · rw [trN_ge h1, show 1000 + (x - 1000) = x by omega]
theorem snd_aas25 (F : Fr bs ra cA dC dI ρ X p s m args c cc own nL) {pc : Nat} {xs st : List Value} {σ : Sg} (hd : decode cc pc = .ok (.aastore, 1))
    (hk : ∀ n ys t τ, leS σ τ → k n ys t τ = some r → Gl bs ra cA dC dI p l e R s m args below meth c nL Q c0 s0 n ys t τ)
    (h : zp3 st (fun u v w t => zref u fun q => zint v fun i => zref w fun x => bif Nat.ble 1000 x && Nat.ble x 1009 then zarr zC zN σ q 25 i fun j => k (pc + 1) xs t (σ.1, σ.2.1, z2 σ.2.2.1 q j (some x), σ.2.2.2.1, σ.2.2.2.2) else none) = some r) : Gl bs ra cA dC dI p l e R s m args below meth c nL Q c0 s0 pc xs st σ := by
  have F0' := F
  obtain ⟨hx, hb, hml, hown, hts, hK, hST, hbs⟩ := F
  intro ls H locs cells slots hnc hl hP hS hc hs
  replace h := zp3_i h
  obtain ⟨u, v, w, t, rfl, h⟩ := h
  replace h := zref_i h
  obtain ⟨q, rfl, h⟩ := h
  replace h := zint_i h
  obtain ⟨i, rfl, h⟩ := h
  replace h := zref_i h
  obtain ⟨x, rfl, h⟩ := h
  replace h := bif_i h
  obtain ⟨hx1, h⟩ := h
  rw [Bool.and_eq_true] at hx1
  replace h := zarr_i h
  obtain ⟨hq, hqc, hin, h⟩ := h
  have hq2 : q < NC := Nat.lt_of_lt_of_le hq hnc
  obtain ⟨ki, hki, hxe, htr⟩ := key_ra F0' (Nat.le_of_ble_eq_true hx1.1) (Nat.le_of_ble_eq_true hx1.2)
  show W p l e R s m args below meth c H locs cells slots Q (F0 m pc ls (.ref (trN bs ra x) :: .int i :: .ref (trN bs ra q) :: t.map (trV bs ra)))
  rw [trN_lt (nc1000 hq2)]
  have hany : va_Any "LateBinder$Key" s H (trN bs ra x) := by
    rw [htr]
    obtain ⟨cell, h1, h2, h3, -⟩ := (hST.1.1 ki hki).2.1.kept hS.2.1
    obtain ⟨kC, hkC, hkn⟩ := Vm.findClass_spec h3
    refine ⟨cell, h1, h2, ⟨kC, hkC⟩, fun comp hcomp => ?_⟩
    cases Option.some.inj (h3.symm.trans hcomp)
    exact asg_rf _ 255 _
  refine va_astqM (D := (dC, dI)) hx hb hK hP wsO_D hS q 5 (cA := cA 25) (n := zN q) (f := fun j => (σ.2.2.1 q j).map (trN bs ra)) (wc25 hq hqc) rfl hany hin hd (fun H1 locs1 hP1 _ hS1 => ?_)
  refine hk _ _ _ _ (by exact leS.sm rfl) h ls H1 locs1 cells slots hnc hl ?_ hS1 hc hs
  refine arr_ws hP1 rfl (fun i hi => ⟨rfl, z2_ne hi, rfl, rfl⟩) ?_
  rw [cl25 hqc]
  dsimp only
  rw [z2_eq]
  congr 7
  funext j
  unfold va_up
  split <;> rfl
theorem snd_alen (F : Fr bs ra cA dC dI ρ X p s m args c cc own nL) {pc : Nat} {xs st : List Value} {σ : Sg} (hd : decode cc pc = .ok (.arraylength, 1))
    (hk : ∀ n ys t τ, leS σ τ → k n ys t τ = some r → Gl bs ra cA dC dI p l e R s m args below meth c nL Q c0 s0 n ys t τ)
    (h : zp1 st (fun v t => zref v fun q => bif Nat.blt q σ.1.1 && Nat.ble 20 (zC q) then k (pc + 1) xs (.int (nI (zN q)) :: t) σ else none) = some r) : Gl bs ra cA dC dI p l e R s m args below meth c nL Q c0 s0 pc xs st σ := by
  obtain ⟨hx, hb, hml, hown, hts, hK, hST, hbs⟩ := F
  intro ls H locs cells slots hnc hl hP hS hc hs
  replace h := zp1_i h
  obtain ⟨v, t, rfl, h⟩ := h
  replace h := zref_i h
  obtain ⟨q, rfl, h⟩ := h
  replace h := bif_i h
  obtain ⟨hq1, h⟩ := h
  rw [Bool.and_eq_true] at hq1
  have hq : q < σ.1.1 := Nat.blt_eq.mp hq1.1
  have hq2 : q < NC := Nat.lt_of_lt_of_le hq hnc
  have h20 : 20 ≤ zC q := Nat.le_of_ble_eq_true hq1.2
  have hgo := hk _ _ _ _ (leS.rf σ) h ls H locs cells slots hnc hl hP hS hc hs
  show W p l e R s m args below meth c H locs cells slots Q (F0 m pc ls (.ref (trN bs ra q) :: t.map (trV bs ra)))
  rw [trN_lt (nc1000 hq2)]
  have h25 : zC q ≤ 25 := by
    rcases zC_ok q hq2 with h1 | h1
    · omega
    · exact h1.2
  have hcs : zC q = 20 ∨ zC q = 21 ∨ zC q = 22 ∨ zC q = 23 ∨ zC q = 24 ∨ zC q = 25 := by omega
  rcases hcs with hqc | hqc | hqc | hqc | hqc | hqc
  · exact va_alen (D := (dC, dI)) hx hb hK hP q 0 (wc20 hq hqc) rfl rfl hd hgo
  · exact va_alen (D := (dC, dI)) hx hb hK hP q 1 (wc21 hq hqc) rfl rfl hd hgo
  · exact va_alen (D := (dC, dI)) hx hb hK hP q 2 (wc22 hq hqc) rfl rfl hd hgo
  · exact va_alen (D := (dC, dI)) hx hb hK hP q 3 (wc23 hq hqc) rfl rfl hd hgo
  · exact va_alen (D := (dC, dI)) hx hb hK hP q 4 (wc24 hq hqc) rfl rfl hd hgo
  · exact va_alen (D := (dC, dI)) hx hb hK hP q 5 (wc25 hq hqc) rfl rfl hd hgo
end AST
