-- A FRAME: calls by contract, a method's run, its contract
section FRAME
variable {bs : Nat} {ra : Nat → Nat} {cA : Nat → ClassId} {dC : Nat → ClassId} {dI : Nat → Nat → Nat} {ρ : Nat × (Nat → Int32)} {X : State → Heap → Prop}
variable {p : Program} {l : Launch} {e : Env} {R : Room} {s : State} {m : MethodId} {args : Array Value} {below : List Frame} {meth : Method} {c : Code} {cc : ByteArray} {own : String} {nL : Nat} {Q : State → Prop} {c0 s0 : Nat} {k : Kn} {r : List Value × Sg}
/-- what is not walked: calls of the kinds 4 to 8 -/
def PrimOK (bs : Nat) (ra : Nat → Nat) (cA : Nat → ClassId) (dC : Nat → ClassId) (dI : Nat → Nat → Nat) (ρ : Nat × (Nat → Int32)) (X : State → Heap → Prop) (l : Launch) (d : Nat) (call : Nat → List Value → Sg → Rs) : Prop :=
  ∀ (p : Program) (e : Env) (R : Room) (s : State) (m : MethodId) (args : Array Value) (below : List Frame) (meth : Method) (c : Code) (cc : ByteArray) (own : String) (nL : Nat) (Q : State → Prop) (c0 s0 : Nat) (k : Kn) (r : List Value × Sg) (pc so x kd mi w : Nat) (ks : List Nat) (xs st : List Value) (σ : Sg),
    Fr bs ra cA dC dI ρ X p s m args c cc own nL → d + 11 ≤ R.frames ∧ 60 * d + 649 ≤ R.locals → s.heap.size ≤ bs + c0 → r.2.1.1 + r.2.1.2.1 ≤ R.cells + c0 ∧ r.2.1.2.2 ≤ R.slots + s0 → meth.locks = false →
    (∀ n ys t τ, k n ys t τ = some r → leS τ r.2) → (∀ n ys t τ, leS σ τ → k n ys t τ = some r → Gl bs ra cA dC dI p l e R s m args below meth c nL Q c0 s0 n ys t τ) → 4 ≤ kd → cak own so x (kd :: mi :: w :: ks) = true →
    decode cc pc = .ok ((if so = 0 then .invokestatic x else if so = 1 then .invokevirtual x else .invokespecial x), 3) → zcal zC zN call mL (kd :: mi :: w :: ks) (pc + 3) xs st σ k = some r → Gl bs ra cA dC dI p l e R s m args below meth c nL Q c0 s0 pc xs st σ
/-- calls of the methods below have their contracts -/
def MetsOK (bs : Nat) (ra : Nat → Nat) (cA : Nat → ClassId) (dC : Nat → ClassId) (dI : Nat → Nat → Nat) (ρ : Nat × (Nat → Int32)) (X : State → Heap → Prop) (l : Launch) (d : Nat) (call : Nat → List Value → Sg → Rs) : Prop :=
  ∀ (mi : Nat) (as : List Value) (σ : Sg) (rv : List Value) (τ : Sg), mi < nM → (∀ v ∈ as, isL v = true) → (zlay as).length ≤ mL mi → σ.1.1 ≤ NC → τ.1.2.2 ≤ 60000000 → call mi (zpad (mL mi) (zlay as)) σ = some (rv, τ) → leS σ τ ∧ MetE bs ra cA dC dI ρ X l d mi as σ rv τ
theorem sum_rev (l : List Nat) : l.reverse.sum = l.sum := List.Perm.sum_nat (List.reverse_perm l)
set_option maxHeartbeats 4000000 in
theorem snd_cal (F : Fr bs ra cA dC dI ρ X p s m args c cc own nL) (hX : Xst bs X) (hmok : ∀ mi, mi < nM → mokb mi = true) {d : Nat} {call : Nat → List Value → Sg → Rs} (hRd : d + 11 ≤ R.frames ∧ 60 * d + 649 ≤ R.locals) (hsz : s.heap.size ≤ bs + c0) (hR : r.2.1.1 + r.2.1.2.1 ≤ R.cells + c0 ∧ r.2.1.2.2 ≤ R.slots + s0) (hRs : r.2.1.2.2 ≤ 60000000) (hlk : meth.locks = false)
    (hMet : MetsOK bs ra cA dC dI ρ X l d call) (hprim : PrimOK bs ra cA dC dI ρ X l d call) {pc so x : Nat} {a : List Nat} {xs st : List Value} {σ : Sg}
    (hk1 : ∀ n ys t τ, k n ys t τ = some r → leS τ r.2) (hk : ∀ n ys t τ, leS σ τ → k n ys t τ = some r → Gl bs ra cA dC dI p l e R s m args below meth c nL Q c0 s0 n ys t τ)
    (hso3 : so ≤ 2) (hck : cak own so x a = true) (hd : decode cc pc = .ok ((if so = 0 then .invokestatic x else if so = 1 then .invokevirtual x else .invokespecial x), 3)) (h : zcal zC zN call mL a (pc + 3) xs st σ k = some r) : Gl bs ra cA dC dI p l e R s m args below meth c nL Q c0 s0 pc xs st σ := by
  rcases a with _ | ⟨kd, _ | ⟨mi, _ | ⟨w, ks⟩⟩⟩
  · cases hck
  · cases hck
  · cases hck
  by_cases h4 : 4 ≤ kd
  · exact hprim p e R s m args below meth c cc own nL Q c0 s0 k r pc so x kd mi w ks xs st σ F hRd hsz hR hlk hk1 hk h4 hck hd h
  · have hck2 : (decide (mi < nM) && (decide ((ks.map kw).sum ≤ mL mi) && (decide (soM mi = so) && (decide ((so = 1 → ks.getLast? = some (rkM mi)) ∧ (so = 2 → ks.getLast? = some 2)) && ((lwk w (.methodLink own x (yM mi)) || (decide (so ≤ 2) && lwk w (.methodLinkNest own x (yM mi) "LateBinder"))) && npk (yM mi) (if so = 0 then ks.length else ks.length - 1)))))) = true := by
      rcases kd with _ | _ | _ | _ | kd <;> first | exact hck | (exfalso; omega)
    simp only [Bool.and_eq_true, decide_eq_true_eq, Bool.or_eq_true] at hck2
    obtain ⟨hmi, hsum, hso, ⟨hl1, hl2⟩, hlnk, hnp⟩ := hck2
    have h0 : zpop zC σ ks st [] (fun as t => bif zok t then (match (generalizing := false) kd with
        | 0 => zcV (call mi (zpad (mL mi) (zlay as)) σ) fun s => k (pc + 3) xs t s
        | 1 => zcI (call mi (zpad (mL mi) (zlay as)) σ) fun x s => k (pc + 3) xs (.int x :: t) s
        | 2 => zcL (call mi (zpad (mL mi) (zlay as)) σ) fun x s => k (pc + 3) xs (.long x :: t) s
        | _ => zcR (call mi (zpad (mL mi) (zlay as)) σ) fun x s => k (pc + 3) xs (.ref x :: t) s) else none) = some r := by
      rcases kd with _ | _ | _ | _ | kd <;> first | exact h | (exfalso; omega)
    obtain ⟨as, t, rfl, has, h1⟩ := zpop_i h0
    obtain ⟨hzo, h2⟩ := bif_i h1
    rw [List.append_nil] at h2
    have hLs := argks_L has
    have hLr : ∀ v ∈ as.reverse, isL v = true := fun v hv => hLs.1 v (List.mem_reverse.mp hv)
    have hlen : (zlay as.reverse).length ≤ mL mi := by
      rw [zlay_len _ hLr, List.map_reverse, sum_rev, hLs.2]
      exact hsum
    have key : ∀ (rv : List Value) (τ : Sg), rv.length ≤ 1 → call mi (zpad (mL mi) (zlay as.reverse)) σ = some (rv, τ) → k (pc + 3) xs (rv ++ t) τ = some r → Gl bs ra cA dC dI p l e R s m args below meth c nL Q c0 s0 pc xs (as ++ t) σ := by
      intro rv τ hrv hcl hh ls H locs cells slots hnc hl hP hS hc hs
      have hle2 := hk1 _ _ _ _ hh
      obtain ⟨hle, hM⟩ := hMet mi as.reverse σ rv τ hmi hLr hlen hnc (Nat.le_trans hle2.2.1 hRs) hcl
      refine W_size fun hz => ?_
      have hrun := snd_run (l := l) (e := e) (below := below) (meth := meth) (cells := cells) (slots := slots) (x := x) (t := t) F hX (hmok mi hmi) hRd hsz hso3 hso hl1 (by
        rcases hlnk with q | q
        · exact Or.inl q
        · exact Or.inr ⟨q.1, q.2⟩) hnp hd (fun h2 => by
          obtain ⟨as', v, e1, e2⟩ := argks_last has (hl2 h2)
          obtain ⟨q, rfl⟩ := e2
          exact ⟨as', q, e1⟩) has hzo hle hM hl.2.1 hnc hP hS hc hs (by have := hle2.1; have := hle2.2.1; omega) hz
      refine call_go hrun hS (fun H1 locs1 hP1 hS1 => ?_)
      have e1 : (rv.head?.map (trV bs ra)).toList ++ t.map (trV bs ra) = (rv ++ t).map (trV bs ra) := by
        rcases rv with _ | ⟨v, _ | ⟨u, rv⟩⟩
        · rfl
        · rfl
        · simp at hrv
      rw [e1]
      refine hk _ _ _ _ hle hh ls H1 locs1 (cells + mcE σ τ) (slots + msE σ τ) (hle.2.2 hnc) hl hP1 hS1 ?_ ?_
      · unfold mcE
        have := hle.1
        omega
      · unfold msE
        have := hle.2.1
        omega
    rcases kd with _ | _ | _ | kd
    · obtain ⟨s', h3, h4⟩ := zcV_i h2
      exact key [] s' (Nat.zero_le _) h3 h4
    · obtain ⟨x', s', h3, h4⟩ := zcI_i h2
      exact key [.int x'] s' (Nat.le_refl _) h3 h4
    · obtain ⟨x', s', h3, h4⟩ := zcL_i h2
      exact key [.long x'] s' (Nat.le_refl _) h3 h4
    · obtain ⟨x', s', h3, h4⟩ := zcR_i h2
      exact key [.ref x'] s' (Nat.le_refl _) h3 h4
/-- new T[n][m], wherever it stands -/
def MnaOK (bs : Nat) (ra : Nat → Nat) (cA : Nat → ClassId) (dC : Nat → ClassId) (dI : Nat → Nat → Nat) (ρ : Nat × (Nat → Int32)) (X : State → Heap → Prop) (l : Launch) : Prop :=
  ∀ (p : Program) (e : Env) (R : Room) (s : State) (m : MethodId) (args : Array Value) (below : List Frame) (meth : Method) (c : Code) (cc : ByteArray) (own : String) (nL : Nat) (Q : State → Prop) (c0 s0 : Nat) (k : Kn) (r : List Value × Sg) (pc x w : Nat) (xs st : List Value) (σ : Sg),
    Fr bs ra cA dC dI ρ X p s m args c cc own nL → s.heap.size ≤ bs + c0 → r.2.1.1 + r.2.1.2.1 ≤ R.cells + c0 ∧ r.2.1.2.2 ≤ R.slots + s0 → r.2.1.2.2 ≤ 60000000 →
    (∀ n ys t τ, k n ys t τ = some r → leS τ r.2) → (∀ n ys t τ, leS σ τ → k n ys t τ = some r → Gl bs ra cA dC dI p l e R s m args below meth c nL Q c0 s0 n ys t τ) →
    lwk w (.classLink own x "[[I") = true → decode cc pc = .ok (.multianewarray x 2, 4) → zi2 st (fun x y t => if 0 ≤ x ∧ 0 ≤ y then znew zC zN σ 23 x.toNatClampNeg fun q s => zrow zC zN q y.toNatClampNeg x.toNatClampNeg 0 s fun s => k (pc + 4) xs (.ref q :: t) s else none) = some r → Gl bs ra cA dC dI p l e R s m args below meth c nL Q c0 s0 pc xs st σ
/-- a method's run, up to its end -/
theorem run_snd (F : Fr bs ra cA dC dI ρ X p s m args c cc own nL) (hX : Xst bs X) (hXa : ∀ U H, X U H → va_AO "LateBinder$Bench" U ∧ va_AO "LateBinder$Key" U) (hac : Cond.arrayClass .int ∈ lw_tbl ∧ Cond.arrayClass .long ∈ lw_tbl ∧ Cond.arrayClass .byte ∈ lw_tbl) (hmok : ∀ mi, mi < nM → mokb mi = true)
    {ini : Bool} {rt : Option FieldType} (hini : ini = true → meth.name = "<init>") {d mi : Nat} {call : Nat → List Value → Sg → Rs} (hcl : ∀ mi xs s q, call mi xs s = some q → leS s q.2) (hok : ∀ pc, opk own ini rt cc pc (tab mi pc) = true)
    (hRd : d + 11 ≤ R.frames ∧ 60 * d + 649 ≤ R.locals) (hsz : s.heap.size ≤ bs + c0) (hR : r.2.1.1 + r.2.1.2.1 ≤ R.cells + c0 ∧ r.2.1.2.2 ≤ R.slots + s0) (hRs : r.2.1.2.2 ≤ 60000000) (hlk : meth.locks = false)
    (hMet : MetsOK bs ra cA dC dI ρ X l d call) (hprim : PrimOK bs ra cA dC dI ρ X l d call) (hmna : MnaOK bs ra cA dC dI ρ X l)
    (hret : ∀ (pc : Nat) (xs st : List Value) (σ : Sg) (k : Kn), isRet (tab mi pc).1 = true → stp zC zN ρ call mL (tab mi pc) xs st σ k = some r → Gl bs ra cA dC dI p l e R s m args below meth c nL Q c0 s0 pc xs st σ) :
    ∀ (f pc : Nat) (xs st : List Value) (σ : Sg), rn ρ call mi f pc xs st σ = some r → Gl bs ra cA dC dI p l e R s m args below meth c nL Q c0 s0 pc xs st σ := by
  intro f
  induction f with
  | zero => intro pc xs st σ h; cases h
  | succ f ih =>
    intro pc xs st σ h
    rw [rn_succ] at h
    have hk1 : ∀ n ys t τ, rn ρ call mi f n (kk mi n ys) t τ = some r → leS τ r.2 := fun n ys t τ hh => rn_leS ρ call mi hcl f n _ t τ hh
    have hk : ∀ n ys t τ, leS σ τ → rn ρ call mi f n (kk mi n ys) t τ = some r → Gl bs ra cA dC dI p l e R s m args below meth c nL Q c0 s0 n ys t τ := fun n ys t τ _ hh ls H locs cells slots h1 h2 h3 h4 h5 h6 =>
      ih n (kk mi n ys) t τ hh ls H locs cells slots h1 (lcO_kk h2) h3 h4 h5 h6
    cases hr : isRet (tab mi pc).1 with
    | true => exact hret pc xs st σ _ hr h
    | false =>
      have hAO := hXa s s.heap F.2.2.2.2.2.2.1.2.2.2.2.2
      have hcal : ∀ (so x : Nat) (a : List Nat), so ≤ 2 → cak own so x a = true → decode cc pc = .ok ((if so = 0 then .invokestatic x else if so = 1 then .invokevirtual x else .invokespecial x), 3) → zcal zC zN call mL a (pc + 3) xs st σ (fun n ys t τ => rn ρ call mi f n (kk mi n ys) t τ) = some r → Gl bs ra cA dC dI p l e R s m args below meth c nL Q c0 s0 pc xs st σ := fun so x a h1 h2 h3 h4 =>
        snd_cal F hX hmok hRd hsz hR hRs hlk hMet hprim hk1 hk h1 h2 h3 h4
      exact snd_step F hini (hok pc) hr hR hsz hRs hAO hac hk1 hk hcal (fun x w h1 h2 h3 => hmna p e R s m args below meth c cc own nL Q c0 s0 _ r pc x w xs st σ F hsz hR hRs hk1 hk h1 h2 h3) h
end FRAME
