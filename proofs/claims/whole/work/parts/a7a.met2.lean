-- CALLS ONCE MORE: Math.max and Math.min by their rows (their class has natives: no contract out of a body)
theorem mx_ev {ρ : Nat × (Nat → Int32)} {d : Nat} {u v : Value} {σ : Sg} {q : List Value × Sg} (h : EV ρ (d + 1) 232 0 [u, v] [] σ = some q) : ∃ x y, u = .int x ∧ v = .int y ∧ q = ([.int (if x < y then y else x)], σ) := by
  rw [EV_go ρ d 232 100] at h
  cases u with
  | int x =>
    cases v with
    | int y =>
      refine ⟨x, y, rfl, rfl, ?_⟩
      have h : (if x < y then (some ([.int y], σ) : Rs) else some ([.int x], σ)) = some q := h
      by_cases hl : x < y
      · rw [if_pos hl] at h ⊢
        exact (Option.some.inj h).symm
      · rw [if_neg hl] at h ⊢
        exact (Option.some.inj h).symm
    | _ => cases h
  | _ => cases h
theorem mn_ev {ρ : Nat × (Nat → Int32)} {d : Nat} {u v : Value} {σ : Sg} {q : List Value × Sg} (h : EV ρ (d + 1) 233 0 [u, v] [] σ = some q) : ∃ x y, u = .int x ∧ v = .int y ∧ q = ([.int (if y < x then y else x)], σ) := by
  rw [EV_go ρ d 233 100] at h
  cases u with
  | int x =>
    cases v with
    | int y =>
      refine ⟨x, y, rfl, rfl, ?_⟩
      have h : (if y < x then (some ([.int y], σ) : Rs) else some ([.int x], σ)) = some q := h
      by_cases hl : y < x
      · rw [if_pos hl] at h ⊢
        exact (Option.some.inj h).symm
      · rw [if_neg hl] at h ⊢
        exact (Option.some.inj h).symm
    | _ => cases h
  | _ => cases h
theorem wX_code : Cond.code Lib.Math.max.name Lib.Math.max.code 2 (some .int) ∈ lw_tbl := List.mem_of_getElem? (i := 675) (by decide +kernel)
theorem wX_sta : Cond.static Lib.Math.max.name ∈ lw_tbl := List.mem_of_getElem? (i := 674) (by decide +kernel)
theorem wN_code : Cond.code Lib.Math.min.name Lib.Math.min.code 2 (some .int) ∈ lw_tbl := List.mem_of_getElem? (i := 745) (by decide +kernel)
theorem wN_sta : Cond.static Lib.Math.min.name ∈ lw_tbl := List.mem_of_getElem? (i := 744) (by decide +kernel)
theorem wX_ini : Cond.initialized "java/lang/Math" ∈ lw_tbl := List.mem_of_getElem? (i := 126) (by decide +kernel)
theorem nst_mx : zNst.all (fun w => match w with
  | .methodLinkNest _ _ y _ => decide (y.cls ≠ "java/lang/Math")
  | _ => true) = true := by decide +kernel
section MET2
variable {bs : Nat} {ra : Nat → Nat} {cA : Nat → ClassId} {dC : Nat → ClassId} {dI : Nat → Nat → Nat} {ρ : Nat × (Nat → Int32)} {X : State → Heap → Prop}
variable {p : Program} {l : Launch} {e : Env} {R : Room} {s : State} {m : MethodId} {args : Array Value} {below : List Frame} {meth : Method} {c : Code} {cc : ByteArray} {own : String} {nL : Nat} {Q : State → Prop} {c0 s0 : Nat} {k : Kn} {r : List Value × Sg}
/-- what is not walked: calls of the kinds 4 to 8 -/
def PrimO (bs : Nat) (ra : Nat → Nat) (cA : Nat → ClassId) (dC : Nat → ClassId) (dI : Nat → Nat → Nat) (ρ : Nat × (Nat → Int32)) (X : State → Heap → Prop) (l : Launch) (d : Nat) (call : Nat → List Value → Sg → Rs) : Prop :=
  ∀ (p : Program) (e : Env) (R : Room) (s : State) (m : MethodId) (args : Array Value) (below : List Frame) (meth : Method) (c : Code) (cc : ByteArray) (own : String) (nL : Nat) (Q : State → Prop) (c0 s0 : Nat) (k : Kn) (r : List Value × Sg) (pc so x kd mi w : Nat) (ks : List Nat) (xs st : List Value) (σ : Sg),
    Fr bs ra cA dC dI ρ X p s m args c cc own nL → d + 11 ≤ R.frames ∧ 60 * d + 649 ≤ R.locals → s.heap.size ≤ bs + c0 → r.2.1.1 + r.2.1.2.1 ≤ R.cells + c0 ∧ r.2.1.2.2 ≤ R.slots + s0 → r.2.1.2.2 ≤ 60000000 → meth.locks = false →
    (∀ n ys t τ, k n ys t τ = some r → leS τ r.2) → (∀ n ys t τ, leS σ τ → k n ys t τ = some r → Gl bs ra cA dC dI p l e R s m args below meth c nL Q c0 s0 n ys t τ) → 4 ≤ kd → cak own so x (kd :: mi :: w :: ks) = true →
    decode cc pc = .ok ((if so = 0 then .invokestatic x else if so = 1 then .invokevirtual x else .invokespecial x), 3) → zcal zC zN call mL (kd :: mi :: w :: ks) (pc + 3) xs st σ k = some r → Gl bs ra cA dC dI p l e R s m args below meth c nL Q c0 s0 pc xs st σ
/-- which of the two -/
def mxv (mi : Nat) (x y : Int32) : Int32 := if mi = 232 then (if x < y then y else x) else (if y < x then y else x)
/-- calls of the methods below have their contracts; Math.max and Math.min what they answer -/
def MetsO (bs : Nat) (ra : Nat → Nat) (cA : Nat → ClassId) (dC : Nat → ClassId) (dI : Nat → Nat → Nat) (ρ : Nat × (Nat → Int32)) (X : State → Heap → Prop) (l : Launch) (d : Nat) (call : Nat → List Value → Sg → Rs) : Prop :=
  (∀ (mi : Nat) (as : List Value) (σ : Sg) (rv : List Value) (τ : Sg), mi < nM → mi ≠ 232 → mi ≠ 233 → (∀ v ∈ as, isL v = true) → (zlay as).length ≤ mL mi → σ.1.1 ≤ NC → τ.1.2.2 ≤ 60000000 → call mi (zpad (mL mi) (zlay as)) σ = some (rv, τ) → leS σ τ ∧ MetE bs ra cA dC dI ρ X l d mi as σ rv τ) ∧
  (∀ (u v : Value) (σ : Sg) (q : List Value × Sg), call 232 [u, v] σ = some q → ∃ x y, u = .int x ∧ v = .int y ∧ q = ([.int (mxv 232 x y)], σ)) ∧
  (∀ (u v : Value) (σ : Sg) (q : List Value × Sg), call 233 [u, v] σ = some q → ∃ x y, u = .int x ∧ v = .int y ∧ q = ([.int (mxv 233 x y)], σ))
theorem zlay_2 {u v : Value} (h1 : isL u = true) (h2 : isL v = true) (h3 : vw u = 1) (h4 : vw v = 1) : zlay [u, v] = [u, v] := by
  cases u <;> first | (cases h1; done) | (cases h3; done) | (cases v <;> first | rfl | (cases h2; done) | (cases h4; done))
set_option maxHeartbeats 4000000 in
theorem snd_mx (F : Fr bs ra cA dC dI ρ X p s m args c cc own nL) {d : Nat} {call : Nat → List Value → Sg → Rs} (hRd : d + 11 ≤ R.frames ∧ 60 * d + 649 ≤ R.locals) (hR : r.2.1.1 + r.2.1.2.1 ≤ R.cells + c0 ∧ r.2.1.2.2 ≤ R.slots + s0) {pc so x w kd : Nat} {ks : List Nat} {xs as t : List Value} {σ : Sg}
    (hk1 : ∀ n ys t τ, k n ys t τ = some r → leS τ r.2) (hk : ∀ n ys t τ, leS σ τ → k n ys t τ = some r → Gl bs ra cA dC dI p l e R s m args below meth c nL Q c0 s0 n ys t τ) (mi : Nat)
    (hmi : (mi = 232 ∧ Cond.code Lib.Math.max.name Lib.Math.max.code 2 (some .int) ∈ lw_tbl ∧ Cond.static Lib.Math.max.name ∈ lw_tbl) ∨ (mi = 233 ∧ Cond.code Lib.Math.min.name Lib.Math.min.code 2 (some .int) ∈ lw_tbl ∧ Cond.static Lib.Math.min.name ∈ lw_tbl))
    (hso : soM mi = so) (hsum : (ks.map kw).sum ≤ mL mi) (hlnk : lwk w (.methodLink own x (yM mi)) = true ∨ (so ≤ 2 ∧ lwk w (.methodLinkNest own x (yM mi) "LateBinder") = true)) (hnp : npk (yM mi) (if so = 0 then ks.length else ks.length - 1) = true)
    (hd : decode cc pc = .ok ((if so = 0 then .invokestatic x else if so = 1 then .invokevirtual x else .invokespecial x), 3)) (hcl : ∀ (u v : Value) (σ : Sg) (q : List Value × Sg), call mi [u, v] σ = some q → ∃ x y, u = .int x ∧ v = .int y ∧ q = ([.int (mxv mi x y)], σ))
    (has : argks σ ks as) (hzo : zok t = true)
    (h2 : (match (generalizing := false) kd with
        | 0 => zcV (call mi (zpad (mL mi) (zlay as.reverse)) σ) fun s => k (pc + 3) xs t s
        | 1 => zcI (call mi (zpad (mL mi) (zlay as.reverse)) σ) fun x s => k (pc + 3) xs (.int x :: t) s
        | 2 => zcL (call mi (zpad (mL mi) (zlay as.reverse)) σ) fun x s => k (pc + 3) xs (.long x :: t) s
        | _ => zcR (call mi (zpad (mL mi) (zlay as.reverse)) σ) fun x s => k (pc + 3) xs (.ref x :: t) s) = some r) : Gl bs ra cA dC dI p l e R s m args below meth c nL Q c0 s0 pc xs (as ++ t) σ := by
  have hs0 : soM mi = 0 := by rcases hmi with z | z <;> rw [z.1] <;> decide
  have hm2 : mL mi = 2 := by rcases hmi with z | z <;> rw [z.1] <;> decide
  have hn2 : npk (yM mi) 2 = true := by rcases hmi with z | z <;> rw [z.1] <;> decide +kernel
  have hcm : (yM mi).cls = "java/lang/Math" := by rcases hmi with z | z <;> rw [z.1] <;> decide
  have e0 : so = 0 := hso.symm.trans hs0
  subst e0
  have hlk : Cond.methodLink own x (yM mi) ∈ lw_tbl := by
    rcases hlnk with z | ⟨-, z⟩
    · exact lwk_m z
    · exfalso
      have h9 := List.all_eq_true.mp nst_mx _ (List.mem_filter.mpr ⟨lwk_m z, rfl⟩ : Cond.methodLinkNest own x (yM mi) "LateBinder" ∈ zNst)
      exact of_decide_eq_true h9 hcm
  have hlen : ks.length = 2 := by
    have a1 := of_decide_eq_true (show npk (yM mi) ks.length = true from hnp)
    have a2 := of_decide_eq_true hn2
    rw [a2] at a1
    exact (Option.some.inj a1).symm
  rw [hm2] at h2 hsum
  rcases ks with _ | ⟨k0, _ | ⟨k1, _ | ⟨k2, ks⟩⟩⟩
  · cases hlen
  · cases hlen
  case cons.cons.cons => simp at hlen
  rcases as with _ | ⟨v0, _ | ⟨v1, _ | ⟨v2, as⟩⟩⟩
  · exact has.elim
  · exact has.2.elim
  case cons.cons.cons => exact has.2.2.elim
  obtain ⟨b0, b1, -⟩ := has
  obtain ⟨l0, w0⟩ := argk_L b0
  obtain ⟨l1, w1⟩ := argk_L b1
  have hkw : ∀ k, 1 ≤ kw k := fun k => by unfold kw; split <;> decide
  have hs2 : kw k0 + kw k1 ≤ 2 := by simpa using hsum
  have ez : zpad 2 (zlay [v1, v0]) = [v1, v0] := by
    rw [zlay_2 l1 l0 (by have := hkw k0; have := hkw k1; omega) (by have := hkw k0; have := hkw k1; omega)]
    rfl
  have h2 : (match (generalizing := false) kd with
        | 0 => zcV (call mi [v1, v0] σ) fun s => k (pc + 3) xs t s
        | 1 => zcI (call mi [v1, v0] σ) fun x s => k (pc + 3) xs (.int x :: t) s
        | 2 => zcL (call mi [v1, v0] σ) fun x s => k (pc + 3) xs (.long x :: t) s
        | _ => zcR (call mi [v1, v0] σ) fun x s => k (pc + 3) xs (.ref x :: t) s) = some r := by
    rw [← ez]
    exact h2
  have fin : ∀ x' y' : Int32, k (pc + 3) xs (.int (mxv mi x' y') :: t) σ = some r → Gl bs ra cA dC dI p l e R s m args below meth c nL Q c0 s0 pc xs (.int y' :: .int x' :: t) σ := by
    intro x' y' hh
    have hle := hk1 _ _ _ _ hh
    obtain ⟨hx, hb, hml, hown, hts, hK, hST, hbs⟩ := F
    intro ls H locs cells slots hnc hl hP hS hc hs
    have hgo := hk _ _ _ _ (leS.rf σ) hh ls H locs cells slots hnc hl hP hS hc hs
    have hle1 := hle.1
    have hle2 := hle.2.1
    have hcat : ((t.map (trV bs ra)).map fun v => v.category).sum + 13 ≤ R.locals := by
      rw [map_cat]
      have := zok_8 hzo
      omega
    rcases hmi with ⟨rfl, c1, c2⟩ | ⟨rfl, c1, c2⟩
    · exact va_mmax hx hb (by rw [hml]; exact hl.2.1.symm) hown (hts _ (gd_in (show Cond.methodLink own x Lib.Math.max.name ∈ lw_tbl from hlk) rfl)) (hts _ (gd_in c2 rfl)) (hts _ (gd_in wX_ini rfl)) (hts _ (gd_in c1 rfl)) (by omega) hcat (by omega) (by omega) hd hgo
    · exact va_mmin hx hb (by rw [hml]; exact hl.2.1.symm) hown (hts _ (gd_in (show Cond.methodLink own x Lib.Math.min.name ∈ lw_tbl from hlk) rfl)) (hts _ (gd_in c2 rfl)) (hts _ (gd_in wX_ini rfl)) (hts _ (gd_in c1 rfl)) (by omega) hcat (by omega) (by omega) hd hgo
  rcases kd with _ | _ | _ | kd
  · obtain ⟨s', h3, h4⟩ := zcV_i h2
    obtain ⟨x', y', -, -, e9⟩ := hcl _ _ _ _ h3
    cases e9
  · obtain ⟨z', s', h3, h4⟩ := zcI_i h2
    obtain ⟨x', y', rfl, rfl, e9⟩ := hcl _ _ _ _ h3
    obtain ⟨e10, rfl⟩ := Prod.mk.inj e9
    have e11 : z' = mxv mi x' y' := Value.int.inj (List.cons.inj e10).1
    rw [e11] at h4
    exact fin x' y' h4
  · obtain ⟨z', s', h3, h4⟩ := zcL_i h2
    obtain ⟨x', y', -, -, e9⟩ := hcl _ _ _ _ h3
    cases e9
  · obtain ⟨z', s', h3, h4⟩ := zcR_i h2
    obtain ⟨x', y', -, -, e9⟩ := hcl _ _ _ _ h3
    cases e9
set_option maxHeartbeats 4000000 in
theorem snd_cal2 (F : Fr bs ra cA dC dI ρ X p s m args c cc own nL) (hX : Xst bs X) {d : Nat} {call : Nat → List Value → Sg → Rs} (hRd : d + 11 ≤ R.frames ∧ 60 * d + 649 ≤ R.locals) (hsz : s.heap.size ≤ bs + c0) (hR : r.2.1.1 + r.2.1.2.1 ≤ R.cells + c0 ∧ r.2.1.2.2 ≤ R.slots + s0) (hRs : r.2.1.2.2 ≤ 60000000) (hlk : meth.locks = false)
    (hMet : MetsO bs ra cA dC dI ρ X l d call) (hprim : PrimO bs ra cA dC dI ρ X l d call) {pc so x : Nat} {a : List Nat} {xs st : List Value} {σ : Sg}
    (hk1 : ∀ n ys t τ, k n ys t τ = some r → leS τ r.2) (hk : ∀ n ys t τ, leS σ τ → k n ys t τ = some r → Gl bs ra cA dC dI p l e R s m args below meth c nL Q c0 s0 n ys t τ)
    (hso3 : so ≤ 2) (hck : cak own so x a = true) (hd : decode cc pc = .ok ((if so = 0 then .invokestatic x else if so = 1 then .invokevirtual x else .invokespecial x), 3)) (h : zcal zC zN call mL a (pc + 3) xs st σ k = some r) : Gl bs ra cA dC dI p l e R s m args below meth c nL Q c0 s0 pc xs st σ := by
  rcases a with _ | ⟨kd, _ | ⟨mi, _ | ⟨w, ks⟩⟩⟩
  · cases hck
  · cases hck
  · cases hck
  by_cases h4 : 4 ≤ kd
  · exact hprim p e R s m args below meth c cc own nL Q c0 s0 k r pc so x kd mi w ks xs st σ F hRd hsz hR hRs hlk hk1 hk h4 hck hd h
  · have hck2 : (decide (mi < nM) && (decide ((ks.map kw).sum ≤ mL mi) && (decide (soM mi = so) && (decide ((so = 1 → ks.getLast? = some (rkM mi)) ∧ (so = 2 → ks.getLast? = some 2)) && ((lwk w (.methodLink own x (yM mi)) || (decide (so ≤ 2) && lwk w (.methodLinkNest own x (yM mi) "LateBinder"))) && npk (yM mi) (if so = 0 then ks.length else ks.length - 1)))))) = true := by
      rcases kd with _ | _ | _ | _ | kd <;> first | exact hck | (exfalso; omega)
    simp only [Bool.and_eq_true, decide_eq_true_eq, Bool.or_eq_true] at hck2
    obtain ⟨hmi, hsum, hso, ⟨hl1, hl2⟩, hlnk, hnp⟩ := hck2
    have h0 : zpop zC σ ks st [] (fun as t => bif zok t then (match (generalizing := false) kd with
        | 0 => zcV (call mi (zpad (mL mi) (zlay as)) σ) fun s => k (pc + 3) xs t s
        | 1 => zcI (call mi (zpad (mL mi) (zlay as)) σ) fun x s => k (pc + 3) xs (.int x :: t) s
        | 2 => zcL (call mi (zpad (mL mi) (zlay as)) σ) fun x s => k (pc + 3) xs (.long x :: t) s
        | _ => zcR (call mi (zpad (mL mi) (zlay as)) σ) fun x s => k (pc + 3) xs (.ref x :: t) s) else none) = some r := by
      rcases kd with _ | _ | _ | _ | kd <;> first | exact h | (exfalso; omega)
    obtain ⟨as, t, rfl, has, h1⟩ := zpop_i h0
    obtain ⟨hzo, h2⟩ := bif_i h1
    rw [List.append_nil] at h2
    have hLs := argks_L has
    have hLr : ∀ v ∈ as.reverse, isL v = true := fun v hv => hLs.1 v (List.mem_reverse.mp hv)
    have hlen : (zlay as.reverse).length ≤ mL mi := by
      rw [zlay_len _ hLr, List.map_reverse, sum_rev, hLs.2]
      exact hsum
    by_cases n1 : mi = 232
    · subst n1
      refine snd_mx (kd := kd) F hRd hR hk1 hk 232 (.inl ⟨rfl, wX_code, wX_sta⟩) hso hsum hlnk hnp hd hMet.2.1 has hzo ?_
      exact h2
    by_cases n2 : mi = 233
    · subst n2
      refine snd_mx (kd := kd) F hRd hR hk1 hk 233 (.inr ⟨rfl, wN_code, wN_sta⟩) hso hsum hlnk hnp hd hMet.2.2 has hzo ?_
      exact h2
    have key : ∀ (rv : List Value) (τ : Sg), rv.length ≤ 1 → call mi (zpad (mL mi) (zlay as.reverse)) σ = some (rv, τ) → k (pc + 3) xs (rv ++ t) τ = some r → Gl bs ra cA dC dI p l e R s m args below meth c nL Q c0 s0 pc xs (as ++ t) σ := by
      intro rv τ hrv hcl hh ls H locs cells slots hnc hl hP hS hc hs
      have hle2 := hk1 _ _ _ _ hh
      obtain ⟨hle, hM⟩ := hMet.1 mi as.reverse σ rv τ hmi n1 n2 hLr hlen hnc (Nat.le_trans hle2.2.1 hRs) hcl
      refine W_size fun hz => ?_
      have hrun := snd_run (l := l) (e := e) (below := below) (meth := meth) (cells := cells) (slots := slots) (x := x) (t := t) F hX (hmok_all mi hmi n1 n2) hRd hsz hso3 hso hl1 (by
        rcases hlnk with q | q
        · exact Or.inl q
        · exact Or.inr ⟨q.1, q.2⟩) hnp hd (fun h2 => by
          obtain ⟨as', v, e1, e2⟩ := argks_last has (hl2 h2)
          obtain ⟨q, rfl⟩ := e2
          exact ⟨as', q, e1⟩) has hzo hle hM hl.2.1 hnc hP hS hc hs (by have := hle2.1; have := hle2.2.1; omega) hz
      refine call_go hrun hS (fun H1 locs1 hP1 hS1 => ?_)
      have e1 : (rv.head?.map (trV bs ra)).toList ++ t.map (trV bs ra) = (rv ++ t).map (trV bs ra) := by
        rcases rv with _ | ⟨v, _ | ⟨u, rv⟩⟩
        · rfl
        · rfl
        · simp at hrv
      rw [e1]
      refine hk _ _ _ _ hle hh ls H1 locs1 (cells + mcE σ τ) (slots + msE σ τ) (hle.2.2 hnc) hl hP1 hS1 ?_ ?_
      · unfold mcE
        have := hle.1
        omega
      · unfold msE
        have := hle.2.1
        omega
    rcases kd with _ | _ | _ | kd
    · obtain ⟨s', h3, h4⟩ := zcV_i h2
      exact key [] s' (Nat.zero_le _) h3 h4
    · obtain ⟨x', s', h3, h4⟩ := zcI_i h2
      exact key [.int x'] s' (Nat.le_refl _) h3 h4
    · obtain ⟨x', s', h3, h4⟩ := zcL_i h2
      exact key [.long x'] s' (Nat.le_refl _) h3 h4
    · obtain ⟨x', s', h3, h4⟩ := zcR_i h2
      exact key [.ref x'] s' (Nat.le_refl _) h3 h4
/-- a method's run, up to its end -/
theorem run_snd2 (F : Fr bs ra cA dC dI ρ X p s m args c cc own nL) (hX : Xst bs X) (hXa : ∀ U H, X U H → va_AO "LateBinder$Bench" U ∧ va_AO "LateBinder$Key" U) (hac : Cond.arrayClass .int ∈ lw_tbl ∧ Cond.arrayClass .long ∈ lw_tbl ∧ Cond.arrayClass .byte ∈ lw_tbl)
    {ini : Bool} {rt : Option FieldType} (hini : ini = true → meth.name = "<init>") {d mi : Nat} {call : Nat → List Value → Sg → Rs} (hcl : ∀ mi xs s q, call mi xs s = some q → leS s q.2) (hok : ∀ pc, opk own ini rt cc pc (tab mi pc) = true)
    (hRd : d + 11 ≤ R.frames ∧ 60 * d + 649 ≤ R.locals) (hsz : s.heap.size ≤ bs + c0) (hR : r.2.1.1 + r.2.1.2.1 ≤ R.cells + c0 ∧ r.2.1.2.2 ≤ R.slots + s0) (hRs : r.2.1.2.2 ≤ 60000000) (hlk : meth.locks = false)
    (hMet : MetsO bs ra cA dC dI ρ X l d call) (hprim : PrimO bs ra cA dC dI ρ X l d call) (hmna : MnaOK bs ra cA dC dI ρ X l)
    (hret : ∀ (pc : Nat) (xs st : List Value) (σ : Sg) (k : Kn), isRet (tab mi pc).1 = true → stp zC zN ρ call mL (tab mi pc) xs st σ k = some r → Gl bs ra cA dC dI p l e R s m args below meth c nL Q c0 s0 pc xs st σ) :
    ∀ (f pc : Nat) (xs st : List Value) (σ : Sg), rn ρ call mi f pc xs st σ = some r → Gl bs ra cA dC dI p l e R s m args below meth c nL Q c0 s0 pc xs st σ := by
  intro f
  induction f with
  | zero => intro pc xs st σ h; cases h
  | succ f ih =>
    intro pc xs st σ h
    rw [rn_succ] at h
    have hk1 : ∀ n ys t τ, rn ρ call mi f n (kk mi n ys) t τ = some r → leS τ r.2 := fun n ys t τ hh => rn_leS ρ call mi hcl f n _ t τ hh
    have hk : ∀ n ys t τ, leS σ τ → rn ρ call mi f n (kk mi n ys) t τ = some r → Gl bs ra cA dC dI p l e R s m args below meth c nL Q c0 s0 n ys t τ := fun n ys t τ _ hh ls H locs cells slots h1 h2 h3 h4 h5 h6 =>
      ih n (kk mi n ys) t τ hh ls H locs cells slots h1 (lcO_kk h2) h3 h4 h5 h6
    cases hr : isRet (tab mi pc).1 with
    | true => exact hret pc xs st σ _ hr h
    | false =>
      have hAO := hXa s s.heap F.2.2.2.2.2.2.1.2.2.2.2.2
      have hcal : ∀ (so x : Nat) (a : List Nat), so ≤ 2 → cak own so x a = true → decode cc pc = .ok ((if so = 0 then .invokestatic x else if so = 1 then .invokevirtual x else .invokespecial x), 3) → zcal zC zN call mL a (pc + 3) xs st σ (fun n ys t τ => rn ρ call mi f n (kk mi n ys) t τ) = some r → Gl bs ra cA dC dI p l e R s m args below meth c nL Q c0 s0 pc xs st σ := fun so x a h1 h2 h3 h4 =>
        snd_cal2 F hX hRd hsz hR hRs hlk hMet hprim hk1 hk h1 h2 h3 h4
      exact snd_step F hini (hok pc) hr hR hsz hRs hAO hac hk1 hk hcal (fun x w h1 h2 h3 => hmna p e R s m args below meth c cc own nL Q c0 s0 _ r pc x w xs st σ F hsz hR hRs hk1 hk h1 h2 h3) h
set_option maxHeartbeats 4000000 in
theorem met_all2 (hX : Xst bs X) (hXa : ∀ U H, X U H → va_AO "LateBinder$Bench" U ∧ va_AO "LateBinder$Key" U) (hac : Cond.arrayClass .int ∈ lw_tbl ∧ Cond.arrayClass .long ∈ lw_tbl ∧ Cond.arrayClass .byte ∈ lw_tbl)
    (hchk : ∀ mi, mi < nM → ∀ pc, opk (yM mi).cls (decide ((yM mi).name = "<init>")) (rM mi) (cM mi) pc (tab mi pc) = true)
    (hprim : ∀ d, PrimO bs ra cA dC dI ρ X l d (fun mi xs σ => EV ρ d mi 0 xs [] σ)) (hmna : MnaOK bs ra cA dC dI ρ X l) : ∀ d, MetsO bs ra cA dC dI ρ X l d (fun mi xs σ => EV ρ d mi 0 xs [] σ) := by
  intro d
  induction d with
  | zero => exact ⟨fun mi as σ rv τ _ _ _ _ _ _ _ h => (by cases h), fun u v σ q h => (by cases h), fun u v σ q h => (by cases h)⟩
  | succ d ih =>
    refine ⟨?_, fun u v σ q h => mx_ev h, fun u v σ q h => mn_ev h⟩
    intro mi as σ rv τ hmi n1 n2 has hlen hnc hRs h
    refine ⟨EV_leS ρ _ _ _ _ _ _ h, ?_⟩
    have hle : leS σ τ := EV_leS ρ _ _ _ _ _ _ h
    obtain ⟨f, hf⟩ := EV_some.mp h
    have hmk := hmok_all mi hmi n1 n2
    unfold mokb at hmk
    simp only [Bool.and_eq_true, decide_eq_true_eq] at hmk
    obtain ⟨w1, w2, hpl, hcl, hmL, -⟩ := hmk
    refine Met.ofW (cc := cM mi) (maxL := mL mi) (ret := rM mi) hpl rfl ?_
    intro p e s m args below meth c s₁ B hml hv
    obtain ⟨rfl, hP, hK, hST, hbs, hsz⟩ := hv
    have hx := B.exec
    have hb := B.bytes
    have hr := B.returns
    have hts0 := atoms_spec (ws := wsM mi) B.pre
    have hts : ∀ w ∈ lw_gd, w.before (as.map (trV bs ra)).toArray s = true := fun w hw => hts0 w (List.mem_cons_of_mem _ hw)
    have hown : s.vm.findClass (yM mi).cls = some m.cls := findClass_of_methodNamed B.named
    have hlocks := B.notSynchronized
    have hin : meth.name = (yM mi).name := (name_of_methodNamed B.named B.method).1
    have hl := lv_entry (as.map (trV bs ra)) (n := mL mi) (by rw [lg_len as has]; exact hlen)
    rw [lg_entry_eq]
    generalize (lg_sl (as.map (trV bs ra)) ++ List.replicate (mL mi - (lg_sl (as.map (trV bs ra))).length) Slot.unset).toArray = ls at hl ⊢
    have F : Fr bs ra cA dC dI ρ X p s m (as.map (trV bs ra)).toArray c (cM mi) (yM mi).cls (mL mi) := ⟨hx, hb, hml, hown, hts, hK, hST, hbs⟩
    have hlc : lcO bs ra (mL mi) (zpad (mL mi) (zlay as)) ls := by
      refine lcO.of hl (by unfold zpad; rw [List.length_append, List.length_replicate]; omega) (fun j v hv hL => ?_)
      refine zlay_args as 0 (mL mi - (zlay as).length) has ?_
      exact zlv_mem.mpr ⟨j, v, hv, (Nat.zero_add _).symm, hL, rfl⟩
    have hmc : mcE σ τ + (σ.1.1 + σ.1.2.1) = τ.1.1 + τ.1.2.1 := by
      unfold mcE
      have := hle.1
      omega
    have hms : msE σ τ + σ.1.2.2 = τ.1.2.2 := by
      unfold msE
      have := hle.2.1
      omega
    exact run_snd2 (R := rmE (d + 1) σ τ) (c0 := σ.1.1 + σ.1.2.1) (s0 := σ.1.2.2) (r := (rv, τ)) (d := d) F hX hXa hac (ini := decide ((yM mi).name = "<init>")) (rt := rM mi) (fun z => by rw [hin]; exact of_decide_eq_true z) (fun mi' xs' s' q hq => EV_leS ρ _ _ _ _ _ _ hq) (hchk mi hmi) ⟨Nat.le_refl _, by show 60 * d + 649 ≤ 60 * (d + 1) + 600; omega⟩ hsz ⟨by show τ.1.1 + τ.1.2.1 ≤ mcE σ τ + _; omega, by show τ.1.2.2 ≤ msE σ τ + _; omega⟩ hRs hlocks ih (hprim d) hmna (fun pc xs st σ' k h1 h2 => ret_met F hr hlocks (hchk mi hmi pc) h1 hmc hms h2) f 0 _ [] σ hf ls s.heap [] 0 0 hnc hlc hP va_S.rf (Nat.zero_add _) (Nat.zero_add _)
set_option maxHeartbeats 2000000 in
/-- a run up to a place from which all is known -/
theorem run_sndK2 (F : Fr bs ra cA dC dI ρ X p s m args c cc own nL) (hX : Xst bs X) (hXa : ∀ U H, X U H → va_AO "LateBinder$Bench" U ∧ va_AO "LateBinder$Key" U) (hac : Cond.arrayClass .int ∈ lw_tbl ∧ Cond.arrayClass .long ∈ lw_tbl ∧ Cond.arrayClass .byte ∈ lw_tbl)
    {ini : Bool} {rt : Option FieldType} (hini : ini = true → meth.name = "<init>") {d mi : Nat} {call : Nat → List Value → Sg → Rs} (hcl : ∀ mi xs s q, call mi xs s = some q → leS s q.2) (hok : ∀ pc, opk own ini rt cc pc (tab mi pc) = true)
    (hRd : d + 11 ≤ R.frames ∧ 60 * d + 649 ≤ R.locals) (hsz : s.heap.size ≤ bs + c0) (hR : r.2.1.1 + r.2.1.2.1 ≤ R.cells + c0 ∧ r.2.1.2.2 ≤ R.slots + s0) (hRs : r.2.1.2.2 ≤ 60000000) (hlk : meth.locks = false)
    (hMet : MetsO bs ra cA dC dI ρ X l d call) (hprim : PrimO bs ra cA dC dI ρ X l d call) (hmna : MnaOK bs ra cA dC dI ρ X l) {K : Kn} (hK1 : ∀ n ys t τ, K n ys t τ = some r → leS τ r.2)
    (hKG : ∀ n ys t τ, K n ys t τ = some r → Gl bs ra cA dC dI p l e R s m args below meth c nL Q c0 s0 n ys t τ)
    (hret : ∀ (pc : Nat) (xs st : List Value) (σ : Sg) (k : Kn), isRet (tab mi pc).1 = true → stp zC zN ρ call mL (tab mi pc) xs st σ k = some r → Gl bs ra cA dC dI p l e R s m args below meth c nL Q c0 s0 pc xs st σ) :
    ∀ (f pc : Nat) (xs st : List Value) (σ : Sg), rnK ρ call mi K f pc xs st σ = some r → Gl bs ra cA dC dI p l e R s m args below meth c nL Q c0 s0 pc xs st σ := by
  intro f
  induction f with
  | zero => intro pc xs st σ h; exact hKG _ _ _ _ h
  | succ f ih =>
    intro pc xs st σ h
    rw [rnK_succ] at h
    have hk1 : ∀ n ys t τ, rnK ρ call mi K f n (kk mi n ys) t τ = some r → leS τ r.2 := fun n ys t τ hh => rnK_leS hcl hK1 f n _ t τ hh
    have hk : ∀ n ys t τ, leS σ τ → rnK ρ call mi K f n (kk mi n ys) t τ = some r → Gl bs ra cA dC dI p l e R s m args below meth c nL Q c0 s0 n ys t τ := fun n ys t τ _ hh ls H locs cells slots h1 h2 h3 h4 h5 h6 =>
      ih n (kk mi n ys) t τ hh ls H locs cells slots h1 (lcO_kk h2) h3 h4 h5 h6
    cases hr : isRet (tab mi pc).1 with
    | true => exact hret pc xs st σ _ hr h
    | false =>
      have hAO := hXa s s.heap F.2.2.2.2.2.2.1.2.2.2.2.2
      have hcal : ∀ (so x : Nat) (a : List Nat), so ≤ 2 → cak own so x a = true → decode cc pc = .ok ((if so = 0 then .invokestatic x else if so = 1 then .invokevirtual x else .invokespecial x), 3) → zcal zC zN call mL a (pc + 3) xs st σ (fun n ys t τ => rnK ρ call mi K f n (kk mi n ys) t τ) = some r → Gl bs ra cA dC dI p l e R s m args below meth c nL Q c0 s0 pc xs st σ := fun so x a h1 h2 h3 h4 =>
        snd_cal2 F hX hRd hsz hR hRs hlk hMet hprim hk1 hk h1 h2 h3 h4
      exact snd_step F hini (hok pc) hr hR hsz hRs hAO hac hk1 hk hcal (fun x w h1 h2 h3 => hmna p e R s m args below meth c cc own nL Q c0 s0 _ r pc x w xs st σ F hsz hR hRs hk1 hk h1 h2 h3) h
end MET2
