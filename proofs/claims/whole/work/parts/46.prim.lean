-- PRIMITIVES: Object.<init>, System.arraycopy
section PRIM
variable {bs : Nat} {ra : Nat → Nat} {cA : Nat → ClassId} {dC : Nat → ClassId} {dI : Nat → Nat → Nat} {ρ : Nat × (Nat → Int32)} {X : State → Heap → Prop}
variable {p : Program} {l : Launch} {e : Env} {R : Room} {s : State} {m : MethodId} {args : Array Value} {below : List Frame} {meth : Method} {c : Code} {cc : ByteArray} {own : String} {nL : Nat} {Q : State → Prop} {c0 s0 : Nat} {k : Kn} {r : List Value × Sg}
theorem snd_obj (F : Fr bs ra cA dC dI ρ X p s m args c cc own nL) (hw1 : Cond.instanceMethod Lib.objectInit ∈ lw_tbl) (hw2 : Cond.code Lib.objectInit ⟨#[0xb1]⟩ 1 none ∈ lw_tbl) {d pc x w mi : Nat} {call : Nat → List Value → Sg → Rs} {xs st : List Value} {σ : Sg} (hRd : d + 11 ≤ R.frames ∧ 60 * d + 649 ≤ R.locals)
    (hk : ∀ n ys t τ, leS σ τ → k n ys t τ = some r → Gl bs ra cA dC dI p l e R s m args below meth c nL Q c0 s0 n ys t τ) (hlw : lwk w (.methodLink own x objectInit) = true) (hd : decode cc pc = .ok (.invokespecial x, 3))
    (h : zcal zC zN call mL [7, mi, w, 2] (pc + 3) xs st σ k = some r) : Gl bs ra cA dC dI p l e R s m args below meth c nL Q c0 s0 pc xs st σ := by
  obtain ⟨hx, hb, hml, hown, hts, hK, hST, hbs⟩ := F
  intro ls H locs cells slots hnc hl hP hS hc hs
  have h0 : zpop zC σ [2] st [] (fun as t => bif zok t then (match as with
      | [_] => k (pc + 3) xs t σ
      | _ => none) else none) = some r := h
  obtain ⟨as, t, rfl, has, h1⟩ := zpop_i h0
  obtain ⟨hzo, h2⟩ := bif_i h1
  rcases as with _ | ⟨v, _ | ⟨u, as⟩⟩
  · exact has.elim
  · obtain ⟨q, rfl⟩ := has.1
    have hgo := hk _ _ _ _ (leS.rf σ) h2 ls H locs cells slots hnc hl hP hS hc hs
    refine W.objInit hx hb hown (hts _ (gd_in (lwk_m hlw) rfl)) (hts _ (gd_in hw1 rfl)) (hts _ (gd_in hw2 rfl)) (g := F0 m pc ls (([Value.ref q] ++ t).map (trV bs ra))) rfl (by rw [hml]; exact hl.2.1) (a := trN bs ra q) (rest := t.map (trV bs ra)) rfl hd (by omega) ?_ hgo
    have := zok_8 hzo
    rw [map_cat]
    show 2 * 0 + _ + 12 ≤ _
    omega
  · exact has.2.elim
set_option maxHeartbeats 2000000 in
theorem snd_cpy (F : Fr bs ra cA dC dI ρ X p s m args c cc own nL) (hw1 : Cond.native arraycopyName ∈ lw_tbl) (hw2 : Cond.static arraycopyName ∈ lw_tbl) (hw3 : Cond.initialized "java/lang/System" ∈ lw_tbl) {d pc x w mi : Nat} {call : Nat → List Value → Sg → Rs} {xs st : List Value} {σ : Sg} (hRd : d + 11 ≤ R.frames ∧ 60 * d + 649 ≤ R.locals)
    (hk : ∀ n ys t τ, leS σ τ → k n ys t τ = some r → Gl bs ra cA dC dI p l e R s m args below meth c nL Q c0 s0 n ys t τ) (hlw : lwk w (.methodLink own x arraycopyName) = true) (hd : decode cc pc = .ok (.invokestatic x, 3))
    (h : zcal zC zN call mL [4, mi, w, 0, 0, 2, 0, 2] (pc + 3) xs st σ k = some r) : Gl bs ra cA dC dI p l e R s m args below meth c nL Q c0 s0 pc xs st σ := by
  obtain ⟨hx, hb, hml, hown, hts, hK, hST, hbs⟩ := F
  intro ls H locs cells slots hnc hl hP hS hc hs
  have h0 : zpop zC σ [0, 0, 2, 0, 2] st [] (fun as t => bif zok t then (match as with
      | [v, w, x, y, z] => zref v fun p => zint w fun i => zref x fun q => zint y fun j => zint z fun m =>
        zobj zC σ p 20 (zobj zC σ q 20 (if 0 ≤ i ∧ 0 ≤ j ∧ 0 ≤ m ∧ i.toNatClampNeg + m.toNatClampNeg ≤ zN p ∧ j.toNatClampNeg + m.toNatClampNeg ≤ zN q then k (pc + 3) xs t (σ.1, σ.2.1, σ.2.2.1, zcpy σ.2.2.2.1 p i.toNatClampNeg q j.toNatClampNeg m.toNatClampNeg, σ.2.2.2.2) else none))
      | _ => none) else none) = some r := h
  obtain ⟨as, t, rfl, has, h1⟩ := zpop_i h0
  obtain ⟨hzo, h2⟩ := bif_i h1
  rcases as with _ | ⟨vn, _ | ⟨vj, _ | ⟨vq, _ | ⟨vi, _ | ⟨vp, _ | ⟨u, as⟩⟩⟩⟩⟩⟩
  · exact has.elim
  · exact has.2.elim
  · exact has.2.2.elim
  · exact has.2.2.2.elim
  · exact has.2.2.2.2.elim
  · obtain ⟨⟨n, rfl⟩, ⟨j, rfl⟩, ⟨q, rfl⟩, ⟨i, rfl⟩, ⟨p0, rfl⟩, -⟩ := has
    obtain ⟨hp1, hp2, h3⟩ := zobj_i h2
    obtain ⟨hq1, hq2, h4⟩ := zobj_i h3
    obtain ⟨⟨z1, z2', z3, z4, z5⟩, h5⟩ := ite_i h4
    show W p l e R s m args below meth c H locs cells slots Q (F0 m pc ls (.int n :: .int j :: .ref (trN bs ra q) :: .int i :: .ref (trN bs ra p0) :: t.map (trV bs ra)))
    rw [trN_lt (nc1000 (Nat.lt_of_lt_of_le hp1 hnc)), trN_lt (nc1000 (Nat.lt_of_lt_of_le hq1 hnc))]
    refine va_copyi (D := (dC, dI)) (ty := .int) hx hb (by rw [hml]; exact hl.2.1.symm) hown (hts _ (gd_in (lwk_m hlw) rfl)) (hts _ (gd_in hw1 rfl)) (hts _ (gd_in hw2 rfl)) (hts _ (gd_in hw3 rfl)) hK hP wsO_D hS p0 q 0 0 (wc20 hp1 hp2) (wc20 hq1 hq2) rfl rfl rfl (Int32.not_lt.mpr z1) (Int32.not_lt.mpr z2') (Int32.not_lt.mpr z3) z4 z5 (fun _ _ => rfl) (by omega) ?_ hd (fun H1 locs1 hP1 _ hS1 => ?_)
    · have := zok_8 hzo
      rw [map_cat]
      have e9 : nativeFrameWords "java/lang/System" "arraycopy" 5 ≤ 30 := by decide
      omega
    · refine hk _ _ _ _ (by exact leS.sm rfl) h5 ls H1 locs1 cells slots hnc hl ?_ hS1 hc hs
      refine arr_ws hP1 rfl (fun a ha => ⟨rfl, rfl, ?_, rfl⟩) ?_
      · show zcpy _ _ _ _ _ _ a = _
        unfold zcpy va_up
        rw [if_neg ha]
      · rw [cl20 hq2]
        show Sum.inl (cA 20, zN q, Sum.inl (zcpy _ _ _ _ _ _ q)) = _
        unfold zcpy va_up
        rw [if_pos rfl]
  · exact has.2.2.2.2.2.elim
end PRIM
