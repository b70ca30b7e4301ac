theorem wK_all : Cond.fieldLink "LateBinder$Key" 73 "LateBinder$Key" "ALL" "[LLateBinder$Key;" ∈ lw_tbl := List.mem_of_getElem? (i := 555) (by decide +kernel)
theorem wK_code : Cond.fieldLink "LateBinder$Key" 69 "LateBinder$Key" "code" "J" ∈ lw_tbl := List.mem_of_getElem? (i := 1693) (by decide +kernel)
theorem wK_cod : Cond.code yKw cKw 3 (some (.object "LateBinder$Key")) ∈ lw_tbl := List.mem_of_getElem? (i := 554) (by decide +kernel)
theorem wK_sta : Cond.static yKw ∈ lw_tbl := List.mem_of_getElem? (i := 553) (by decide +kernel)
theorem wK_ini : Cond.initialized "LateBinder$Key" ∈ lw_tbl := List.mem_of_getElem? (i := 124) (by decide +kernel)
section PRIM3
variable {bs : Nat} {ra : Nat → Nat} {cA : Nat → ClassId} {dC : Nat → ClassId} {dI : Nat → Nat → Nat} {ρ : Nat × (Nat → Int32)} {X : State → Heap → Prop} {l : Launch}
theorem wP_nat : Cond.native arraycopyName ∈ lw_tbl := List.mem_of_getElem? (i := 776) (by decide +kernel)
theorem wP_sta : Cond.static arraycopyName ∈ lw_tbl := List.mem_of_getElem? (i := 775) (by decide +kernel)
theorem wP_sys : Cond.initialized "java/lang/System" ∈ lw_tbl := List.mem_of_getElem? (i := 131) (by decide +kernel)
theorem wP_obj : Cond.instanceMethod Lib.objectInit ∈ lw_tbl := List.mem_of_getElem? (i := 142) (by decide +kernel)
theorem wP_obc : Cond.code Lib.objectInit ⟨#[0xb1]⟩ 1 none ∈ lw_tbl := List.mem_of_getElem? (i := 143) (by decide +kernel)
/-- the law's log, wherever it is called -/
def LogOK (bs : Nat) (ra : Nat → Nat) (cA : Nat → ClassId) (dC : Nat → ClassId) (dI : Nat → Nat → Nat) (ρ : Nat × (Nat → Int32)) (X : State → Heap → Prop) (l : Launch) (d : Nat) (call : Nat → List Value → Sg → Rs) : Prop :=
  ∀ (p : Program) (e : Env) (R : Room) (s : State) (m : MethodId) (args : Array Value) (below : List Frame) (meth : Method) (c : Code) (cc : ByteArray) (own : String) (nL : Nat) (Q : State → Prop) (c0 s0 : Nat) (k : Kn) (r : List Value × Sg) (pc x w : Nat) (xs st : List Value) (σ : Sg),
    Fr bs ra cA dC dI ρ X p s m args c cc own nL → d + 11 ≤ R.frames ∧ 60 * d + 649 ≤ R.locals → s.heap.size ≤ bs + c0 → r.2.1.1 + r.2.1.2.1 ≤ R.cells + c0 ∧ r.2.1.2.2 ≤ R.slots + s0 → meth.locks = false →
    (∀ n ys t τ, k n ys t τ = some r → leS τ r.2) → (∀ n ys t τ, leS σ τ → k n ys t τ = some r → Gl bs ra cA dC dI p l e R s m args below meth c nL Q c0 s0 n ys t τ) → lwk w (.methodLink own x ⟨"LateBinderLaw", "log", "(LLateBinder;II[J)I"⟩) = true →
    decode cc pc = .ok (.invokestatic x, 3) → zcal zC zN call mL [8, 118, w, 2, 0, 0, 2] (pc + 3) xs st σ k = some r → Gl bs ra cA dC dI p l e R s m args below meth c nL Q c0 s0 pc xs st σ
set_option maxHeartbeats 2000000 in
theorem prim_ok (hX : Xst bs X) (hXk : ∀ U H, X U H → XK bs ra U H) (hXs : ∀ U H, X U H → XS bs ra U H) {d : Nat} {call : Nat → List Value → Sg → Rs} (hlog : LogOK bs ra cA dC dI ρ X l d call) : PrimOK bs ra cA dC dI ρ X l d call := by
  intro p e R s m args below meth c cc own nL Q c0 s0 k r pc so x kd mi w ks xs st σ F hRd hsz hR hlk hk1 hk h4 hck hd h
  by_cases k4 : kd = 4
  · subst k4
    have hck : (decide (so = 0) && (decide (ks = [0, 0, 2, 0, 2]) && lwk w (.methodLink own x arraycopyName))) = true := hck
    simp only [Bool.and_eq_true, decide_eq_true_eq] at hck
    obtain ⟨rfl, rfl, hw⟩ := hck
    exact snd_cpy F wP_nat wP_sta wP_sys hRd hk hw hd h
  by_cases k5 : kd = 5
  · subst k5
    have hck : (decide (so = 0) && (decide (ks = [1]) && lwk w (.methodLink own x ⟨"LateBinder$Key", "withCode", "(J)LLateBinder$Key;"⟩))) = true := hck
    simp only [Bool.and_eq_true, decide_eq_true_eq] at hck
    obtain ⟨rfl, rfl, hw⟩ := hck
    have h0 : zpop zC σ [1] st [] (fun as t => bif zok t then (match as with
        | [v] => zlon v fun c => k (pc + 3) xs (zr (zkey c) :: t) σ
        | _ => none) else none) = some r := h
    obtain ⟨as, t, rfl, has, h1⟩ := zpop_i h0
    obtain ⟨hzo, h2⟩ := bif_i h1
    rcases as with _ | ⟨v, _ | ⟨u, as⟩⟩
    · exact has.elim
    · obtain ⟨q, rfl⟩ := has.1
      exact snd_one F hX hRd hsz hR (key_met hXk wK_all wK_code q σ) wK_cod wK_sta wK_ini (lwk_m hw) (by decide) (by decide +kernel) (by decide) hk1 hk hd hzo h2
    · exact has.2.elim
  by_cases k6 : kd = 6
  · subst k6
    have hck : (decide (so = 0) && (decide (ks = [2]) && (decide (own = "LateBinderModel") && lwk w (.methodLink own x ⟨"LateBinderModel", "packed", "(Ljava/lang/String;)J"⟩)))) = true := hck
    simp only [Bool.and_eq_true, decide_eq_true_eq] at hck
    obtain ⟨rfl, rfl, -, hw⟩ := hck
    have h0 : zpop zC σ [2] st [] (fun as t => bif zok t then (match as with
        | [v] => zref v fun q => bif Nat.ble 1020 q && Nat.ble q 1029 then k (pc + 3) xs (.long (ztxt q) :: t) σ else none
        | _ => none) else none) = some r := h
    obtain ⟨as, t, rfl, has, h1⟩ := zpop_i h0
    obtain ⟨hzo, h2⟩ := bif_i h1
    rcases as with _ | ⟨v, _ | ⟨u, as⟩⟩
    · exact has.elim
    · obtain ⟨q, rfl⟩ := has.1
      obtain ⟨hq, h3⟩ := bif_i h2
      rw [Bool.and_eq_true] at hq
      have hq1 := Nat.le_of_ble_eq_true hq.1
      have hq2 := Nat.le_of_ble_eq_true hq.2
      obtain ⟨i, rfl⟩ := Nat.exists_eq_add_of_le hq1
      have hi10 : i < 10 := by have h9 : 1020 + i ≤ 1029 := hq2; omega
      exact snd_one F hX hRd hsz hR (mS_packed hXs i hi10 σ) kS_packed tS_packed nS_mod (lwk_m hw) (by decide) (by decide +kernel) (by decide) hk1 hk hd hzo h3
    · exact has.2.elim
  by_cases k7 : kd = 7
  · subst k7
    have hck : (decide (so = 2) && (decide (ks = [2]) && lwk w (.methodLink own x objectInit))) = true := hck
    simp only [Bool.and_eq_true, decide_eq_true_eq] at hck
    obtain ⟨rfl, rfl, hw⟩ := hck
    exact snd_obj F wP_obj wP_obc hRd hk hw hd h
  by_cases k8 : kd = 8
  · subst k8
    have hck : (decide (so = 0) && (decide (ks = [2, 0, 0, 2]) && (decide (mi = 118) && lwk w (.methodLink own x ⟨"LateBinderLaw", "log", "(LLateBinder;II[J)I"⟩)))) = true := hck
    simp only [Bool.and_eq_true, decide_eq_true_eq] at hck
    obtain ⟨rfl, rfl, rfl, hw⟩ := hck
    exact hlog p e R s m args below meth c cc own nL Q c0 s0 k r pc x w xs st σ F hRd hsz hR hlk hk1 hk hw hd h
  · obtain ⟨j, rfl⟩ : ∃ j, kd = j + 9 := ⟨kd - 9, by omega⟩
    have h0 : zpop zC σ ks st [] (fun as t => bif zok t then none else none) = some r := h
    obtain ⟨as, t, rfl, has, h1⟩ := zpop_i h0
    obtain ⟨hzo, h2⟩ := bif_i h1
    cases h2
end PRIM3
