-- PRIMITIVES: Key.withCode, packed
section PRIM2
variable {bs : Nat} {ra : Nat → Nat} {cA : Nat → ClassId} {dC : Nat → ClassId} {dI : Nat → Nat → Nat} {ρ : Nat × (Nat → Int32)} {X : State → Heap → Prop}
variable {p : Program} {l : Launch} {e : Env} {R : Room} {s : State} {m : MethodId} {args : Array Value} {below : List Frame} {meth : Method} {c : Code} {cc : ByteArray} {own : String} {nL : Nat} {Q : State → Prop} {c0 s0 : Nat} {k : Kn} {r : List Value × Sg}
set_option maxHeartbeats 2000000 in
/-- a static call of one argument that makes nothing, by its contract -/
theorem snd_one (F : Fr bs ra cA dC dI ρ X p s m args c cc own nL) (hX : Xst bs X) {y : MethodName} {bytes : ByteArray} {maxL : Nat} {ret : Option FieldType} {d pc x : Nat} {xs t : List Value} {a v : Value} {σ : Sg} (hRd : d + 11 ≤ R.frames ∧ 60 * d + 649 ≤ R.locals) (hsz : s.heap.size ≤ bs + c0) (hR : r.2.1.1 + r.2.1.2.1 ≤ R.cells + c0 ∧ r.2.1.2.2 ≤ R.slots + s0)
    (hM : Met l y (Cond.code y bytes maxL ret :: lw_gd) (rmE 0 σ σ) (PreE bs ra cA dC dI ρ X [a] σ) (PostE bs ra cA dC dI [v] σ) (mcE σ σ) (msE σ σ) (zA bs))
    (hkc : Cond.code y bytes maxL ret ∈ lw_tbl) (hst : Cond.static y ∈ lw_tbl) (hin : Cond.initialized y.cls ∈ lw_tbl) (hli : Cond.methodLink own x y ∈ lw_tbl) (hcl : y.cls ≠ "java/lang/invoke/MethodHandle" ∧ y.cls ≠ "java/lang/invoke/VarHandle") (hnp : npk y 1 = true) (hmL : maxL ≤ 20)
    (hk1 : ∀ n ys t τ, k n ys t τ = some r → leS τ r.2) (hk : ∀ n ys t τ, leS σ τ → k n ys t τ = some r → Gl bs ra cA dC dI p l e R s m args below meth c nL Q c0 s0 n ys t τ) (hd : decode cc pc = .ok (.invokestatic x, 3)) (hzo : zok t = true)
    (h : k (pc + 3) xs (v :: t) σ = some r) : Gl bs ra cA dC dI p l e R s m args below meth c nL Q c0 s0 pc xs (a :: t) σ := by
  obtain ⟨hx, hb, hml, hown, hts, hK, hST, hbs⟩ := F
  intro ls H locs cells slots hnc hl hP hS hc hs
  have hle := hk1 _ _ _ _ h
  have hle1 := hle.1
  have hle2 := hle.2.1
  refine W_size fun hz => ?_
  have hm0 : mcE σ σ = 0 := Nat.sub_self _
  have hm1 : msE σ σ = 0 := Nat.sub_self _
  have hrun : va_Run p l e R s m args below meth c H locs cells slots (mcE σ σ) (msE σ σ) (F0 m pc ls ((a :: t).map (trV bs ra))) (t.map (trV bs ra)) (PostE bs ra cA dC dI [v] σ ([a].map (trV bs ra)).toArray) (zA bs) := by
    refine va_runS ⟨hx, hb, hml, hown, hts⟩ hM ⟨⟨rfl, rfl, by show 0 + 10 + 1 ≤ R.frames; omega, by show 8 + (maxL + 11) + (60 * 0 + 600) ≤ R.locals; omega, gd_pay hkc hts, List.mem_cons_self, hts _ (gd_in hkc rfl), hts _ (gd_in hin rfl), hcl, fun sig hs => ?_, hts _ (gd_in hli rfl)⟩, hts _ (gd_in hst rfl)⟩ ⟨PreE_blind hX _ _, fun U hU hW => ⟨rfl, by rw [hU]; exact hP, va_K.moved hW.alike hK, by rw [hU]; exact STt.to hX hbs hW hS hST, by rw [hU]; exact Nat.le_trans hbs hS.1, by rw [hU]; omega⟩⟩ rfl rfl hl.2.1 rfl ?_ hd ⟨by rw [hm0]; omega, by rw [hm1]; omega⟩
    · have h2 := of_decide_eq_true hnp
      rw [hs] at h2
      exact (Option.some.inj h2).symm
    · show 2 * 0 + ((t.map (trV bs ra)).map fun v => v.category).sum ≤ 8
      rw [map_cat]
      have := zok_8 hzo
      omega
  refine call_go hrun hS (fun H1 locs1 hP1 hS1 => ?_)
  rw [hm0, hm1]
  exact hk _ _ _ _ (leS.rf σ) h ls H1 locs1 cells slots hnc hl hP1 hS1 hc hs
end PRIM2
