-- CALLS
def mokb (mi : Nat) : Bool := lwk ((wxM mi).getD 0 0) (.code (yM mi) (cM mi) (mL mi) (rM mi)) && (lwk ((wxM mi).getD 1 0) (.initialized (yM mi).cls) && (plainName (yM mi).cls && (decide ((yM mi).cls ≠ "java/lang/invoke/MethodHandle" ∧ (yM mi).cls ≠ "java/lang/invoke/VarHandle") && (decide (mL mi ≤ 30) && (match soM mi with
  | 0 => lwk ((wxM mi).getD 2 0) (.static (yM mi))
  | 1 => lwk ((wxM mi).getD 2 0) (.instanceMethod (yM mi)) && (lwk ((wxM mi).getD 3 0) (.selects (yM mi).cls (yM mi) (yM mi)) && (bif Nat.beq (rkM mi) 3 then decide ((yM mi).cls = "LateBinder$Key") else match clz[rkM mi - 4]? with
    | some q => decide (4 ≤ rkM mi) && decide (q.1 = (yM mi).cls)
    | none => false))
  | _ => lwk ((wxM mi).getD 2 0) (.instanceMethod (yM mi)) && (decide ((yM mi).name = "<init>") && decide (rM mi = none)))))))
def wsM (mi : Nat) : List Cond := Cond.code (yM mi) (cM mi) (mL mi) (rM mi) :: lw_gd
/-- X stays: where tables warm, where the old heap stays, where the tables are the same -/
def Xst (bs : Nat) (X : State → Heap → Prop) : Prop := (∀ (s U : State) (H : Heap), s.WarmedH U.vm → X s H → X U H) ∧ (∀ (U : State) (H H1 : Heap), (∀ a : Nat, a < H.size → ¬ zA bs a → H1[a]? = H[a]?) → X U H → X U H1) ∧ (∀ (U V : State) (H : Heap), V.vm = U.vm → X U H → X V H)
section CALL
variable (bs : Nat) (ra : Nat → Nat) (cA : Nat → ClassId) (dC : Nat → ClassId) (dI : Nat → Nat → Nat) (ρ : Nat × (Nat → Int32)) (X : State → Heap → Prop)
def PreE (as : List Value) (σ : Sg) : Array Value → State → Prop := fun v U => v = (as.map (trV bs ra)).toArray ∧ va_P (dC, dI) clz (wsO bs ra cA σ) U.heap ∧ va_K (dC, dI) clz (tyz cA) U ∧ STt bs ra ρ X U U.heap ∧ bs ≤ U.heap.size ∧ U.heap.size ≤ bs + (σ.1.1 + σ.1.2.1)
def PostE (rv : List Value) (τ : Sg) : Array Value → State → Outcome → State → Prop := fun _ st oc t => oc = .returned (rv.head?.map (trV bs ra)) ∧ va_P (dC, dI) clz (wsO bs ra cA τ) t.heap ∧ va_F (zA bs) st t
def mcE (σ τ : Sg) : Nat := (τ.1.1 + τ.1.2.1) - (σ.1.1 + σ.1.2.1)
def msE (σ τ : Sg) : Nat := τ.1.2.2 - σ.1.2.2
def rmE (d : Nat) (σ τ : Sg) : Room := { frames := d + 10, cells := mcE σ τ, slots := msE σ τ, locals := 60 * d + 600 }
def MetE (l : Launch) (d mi : Nat) (as : List Value) (σ : Sg) (rv : List Value) (τ : Sg) : Prop :=
  Met l (yM mi) (wsM mi) (rmE d σ τ) (PreE bs ra cA dC dI ρ X as σ) (PostE bs ra cA dC dI rv τ) (mcE σ τ) (msE σ τ) (zA bs)
end CALL
section CALL2
variable {bs : Nat} {ra : Nat → Nat} {cA : Nat → ClassId} {dC : Nat → ClassId} {dI : Nat → Nat → Nat} {ρ : Nat × (Nat → Int32)} {X : State → Heap → Prop}
variable {p : Program} {l : Launch} {e : Env} {R : Room} {s : State} {m : MethodId} {args : Array Value} {below : List Frame} {meth : Method} {c : Code} {cc : ByteArray} {own : String} {nL : Nat} {Q : State → Prop} {c0 s0 : Nat} {k : Kn} {r : List Value × Sg}
theorem STt.to (hX : Xst bs X) {U : State} {H : Heap} {locs : List Loc} (hbs : bs ≤ s.heap.size) (hW : s.WarmedH U.vm) (hS : va_S (zA bs) s.heap H locs) (h : STt bs ra ρ X s s.heap) : STt bs ra ρ X U H := by
  obtain ⟨h1, h2, h3, h4, h5, h6⟩ := h
  refine ⟨(h1.moved hW.alike).kept hS.2.1, (h2.moved hW.alike).kept (hS.2.1 _ (Nat.lt_of_lt_of_le h3 hbs) (Nat.not_le.mpr h3)), h3, fun i hi => vk_R.warm hW (h4 i hi), fun w hw => ?_, hX.2.1 _ _ _ hS.2.1 (hX.1 _ _ _ hW h6)⟩
  have hn := (List.mem_filter.mp hw).2
  have h7 := h5 w hw
  cases w <;> first | exact va_Nw.warmF hW h7 | exact va_Nw.warmM hW h7 | (exact absurd (show false = true from hn) (by decide))
theorem STt.same (hX : Xst bs X) {U V : State} {H : Heap} (hV : V.vm = U.vm) (h : STt bs ra ρ X U H) : STt bs ra ρ X V H := by
  obtain ⟨h1, h2, h3, h4, h5, h6⟩ := h
  have ha : U.vm.Alike V.vm := by rw [hV]; exact Vm.Alike.refl _
  refine ⟨h1.moved ha, h2.moved ha, h3, fun i hi => vk_R.same hV (h4 i hi), fun w hw => ?_, hX.2.2 _ _ _ hV h6⟩
  have hn := (List.mem_filter.mp hw).2
  have h7 := h5 w hw
  cases w <;> first | exact va_Nw.same rfl hV.symm h7 | (exact absurd (show false = true from hn) (by decide))
theorem PreE_blind (hX : Xst bs X) (as : List Value) (σ : Sg) : FrameBlind (PreE bs ra cA dC dI ρ X as σ) := by
  intro a U g mk h
  obtain ⟨h1, h2, h3, h4, h5, h6⟩ := h
  exact ⟨h1, h2, va_K.moved (u := U) (U := U.calling g mk a) (Vm.Alike.refl U.vm) h3, STt.same (U := U) (V := U.calling g mk a) hX rfl h4, h5, h6⟩
theorem call_go {H : Heap} {locs : List Loc} {cells slots mc ms pc : Nat} {ls : Array Slot} {st0 rest : List Value} {rv : List Value} {τ : Sg} {a : Array Value} (hr : va_Run p l e R s m args below meth c H locs cells slots mc ms (F0 m pc ls st0) rest (PostE bs ra cA dC dI rv τ a) (zA bs)) (hS : va_S (zA bs) s.heap H locs)
    (kk : ∀ (H1 : Heap) (locs1 : List Loc), va_P (dC, dI) clz (wsO bs ra cA τ) H1 → va_S (zA bs) s.heap H1 locs1 → W p l e R s m args below meth c H1 locs1 (cells + mc) (slots + ms) Q (F0 m (pc + 3) ls ((rv.head?.map (trV bs ra)).toList ++ rest))) : W p l e R s m args below meth c H locs cells slots Q (F0 m pc ls st0) := by
  intro T hT Xs
  obtain ⟨v, st₀, t, T', L, h0, X', hL, e1, e2, ⟨hv, hP1, hF⟩, stp⟩ := hr T hT Xs
  have hv : v = rv.head?.map (trV bs ra) := by cases hv; rfl
  subst hv
  have hS1 : va_S (zA bs) s.heap t.heap (locs ++ L) := by
    refine ⟨Nat.le_trans hS.1 (by rw [← h0]; exact hF.1), fun q h1 h2 => ?_, fun q hq => ?_⟩
    · rw [hF.2 q (by rw [h0]; exact Nat.lt_of_lt_of_le h1 hS.1) h2, h0]
      exact hS.2.1 q h1 h2
    · rcases List.mem_append.mp hq with h | h
      · exact hS.2.2 q h
      · exact hL q h
  obtain ⟨t2, a1, b1⟩ := kk t.heap (locs ++ L) hP1 hS1 T' e1 X'
  exact ⟨t2, stp t2 a1, b1⟩
theorem zok_8 {r : List Value} (h : zok r = true) : (r.map fun v => v.category).sum ≤ 8 := by
  unfold zok at h
  rw [Bool.or_eq_true] at h
  rcases h with h | h
  · have h1 := Nat.le_of_ble_eq_true h
    have h2 : ∀ l : List Value, (l.map fun v => v.category).sum ≤ 2 * l.length := by
      intro l
      induction l with
      | nil => exact Nat.le_refl _
      | cons a l ih =>
        have : a.category ≤ 2 := by cases a <;> simp [Value.category]
        simp only [List.map_cons, List.sum_cons, List.length_cons]
        omega
    exact Nat.le_trans (h2 r) (by omega)
  · exact Nat.le_of_ble_eq_true h
theorem map_cat (l : List Value) : ((l.map (trV bs ra)).map fun v => v.category) = l.map fun v => v.category := by
  rw [List.map_map]
  apply List.map_congr_left
  intro v _
  exact trV_cat
theorem lw_GoodIn {mi : Nat} (h : Cond.code (yM mi) (cM mi) (mL mi) (rM mi) ∈ lw_tbl) : GoodIn lw_gd (wsM mi) := by
  intro w hw
  have hg : w ∈ lw_gd := by
    rcases List.mem_cons.mp hw with rfl | hw
    · exact gd_in h rfl
    · exact hw
  exact ⟨hg, good_of_word (List.mem_filter.mp hg).2⟩
end CALL2
section CALL3
variable {bs : Nat} {ra : Nat → Nat} {cA : Nat → ClassId} {dC : Nat → ClassId} {dI : Nat → Nat → Nat} {ρ : Nat × (Nat → Int32)} {X : State → Heap → Prop}
variable {p : Program} {l : Launch} {e : Env} {R : Room} {s : State} {m : MethodId} {args : Array Value} {below : List Frame} {meth : Method} {c : Code} {cc : ByteArray} {own : String} {nL : Nat} {Q : State → Prop} {c0 s0 : Nat} {k : Kn} {r : List Value × Sg}
theorem argks_last {σ : Sg} : ∀ {ks : List Nat} {as : List Value} {rk : Nat}, argks σ ks as → ks.getLast? = some rk → ∃ as' v, as = as' ++ [v] ∧ argk σ rk v
  | [], _, _, _, h => by cases h
  | [k0], [v], rk, h, hl => by
    cases hl
    exact ⟨[], v, rfl, h.1⟩
  | k0 :: k1 :: ks, v :: vs, rk, h, hl => by
    obtain ⟨as', u, h1, h2⟩ := argks_last (ks := k1 :: ks) h.2 (by simpa using hl)
    exact ⟨v :: as', u, by rw [h1]; rfl, h2⟩
  | [_], [], _, h, _ => h.elim
  | [_], _ :: _ :: _, _, h, _ => h.2.elim
  | _ :: _ :: _, [], _, h, _ => h.elim
theorem argks_len {σ : Sg} {ks : List Nat} {as : List Value} (h : argks σ ks as) : as.length = ks.length := by
  have := congrArg List.length (argks_L h).2
  simpa using this
set_option maxHeartbeats 4000000 in
theorem snd_run (F : Fr bs ra cA dC dI ρ X p s m args c cc own nL) (hX : Xst bs X) {d mi so x w pc : Nat} {ks : List Nat} (hmk : mokb mi = true) (hRd : d + 11 ≤ R.frames ∧ 60 * d + 649 ≤ R.locals) (hsz : s.heap.size ≤ bs + c0)
    (hso3 : so ≤ 2) (hso : soM mi = so) (hrk : so = 1 → ks.getLast? = some (rkM mi)) (hlk : lwk w (.methodLink own x (yM mi)) = true ∨ (so ≤ 2 ∧ lwk w (.methodLinkNest own x (yM mi) "LateBinder") = true)) (hnp : npk (yM mi) (if so = 0 then ks.length else ks.length - 1) = true)
    (hd : decode cc pc = .ok ((if so = 0 then .invokestatic x else if so = 1 then .invokevirtual x else .invokespecial x), 3))
    {σ τ : Sg} {as t rv : List Value} (hrk2 : so = 2 → ∃ as' q, as = as' ++ [.ref q]) (has : argks σ ks as) (hzo : zok t = true) (hle : leS σ τ) (hM : MetE bs ra cA dC dI ρ X l d mi as.reverse σ rv τ)
    {ls : Array Slot} {H : Heap} {locs : List Loc} {cells slots : Nat} (hls : ls.size = nL) (hnc : σ.1.1 ≤ NC) (hP : va_P (dC, dI) clz (wsO bs ra cA σ) H) (hS : va_S (zA bs) s.heap H locs) (hc : cells + c0 = σ.1.1 + σ.1.2.1) (hs : slots + s0 = σ.1.2.2) (hR : τ.1.1 + τ.1.2.1 ≤ R.cells + c0 ∧ τ.1.2.2 ≤ R.slots + s0) (hz : H.size ≤ s.heap.size + cells) :
    va_Run p l e R s m args below meth c H locs cells slots (mcE σ τ) (msE σ τ) (F0 m pc ls ((as ++ t).map (trV bs ra))) (t.map (trV bs ra)) (PostE bs ra cA dC dI rv τ (as.reverse.map (trV bs ra)).toArray) (zA bs) := by
  have F0' := F
  obtain ⟨hx, hb, hml, hown, hts, hK, hST, hbs⟩ := F
  unfold mokb at hmk
  simp only [Bool.and_eq_true, decide_eq_true_eq] at hmk
  obtain ⟨w1, w2, hpl, hcl, hmL, hk⟩ := hmk
  have hfit : cells + mcE σ τ ≤ R.cells ∧ slots + msE σ τ ≤ R.slots := by
    unfold mcE msE
    have := hle.1
    have := hle.2.1
    omega
  have hG := lw_GoodIn (lwk_m w1)
  have hpay := pay_in hts hG
  have hpre : ∀ U : State, U.heap = H → s.WarmedH U.vm → PreE bs ra cA dC dI ρ X as.reverse σ (as.reverse.map (trV bs ra)).toArray U := fun U hU hW =>
    ⟨rfl, by rw [hU]; exact hP, va_K.moved hW.alike hK, by rw [hU]; exact STt.to hX hbs hW hS hST, by rw [hU]; exact Nat.le_trans hbs hS.1, by rw [hU]; omega⟩
  have hbl := PreE_blind (bs := bs) (ra := ra) (cA := cA) (dC := dC) (dI := dI) (ρ := ρ) hX as.reverse σ
  have hcat : 2 * (F0 m pc ls ((as ++ t).map (trV bs ra))).monitorRoom + ((t.map (trV bs ra)).map fun v => v.category).sum ≤ 8 := by
    show 2 * 0 + _ ≤ 8
    rw [map_cat]
    have := zok_8 hzo
    omega
  have hcode : (Cond.code (yM mi) (cM mi) (mL mi) (rM mi)).before args s = true := hts _ (gd_in (lwk_m w1) rfl)
  have hinit : (Cond.initialized (yM mi).cls).before args s = true := hts _ (gd_in (lwk_m w2) rfl)
  have hsig : ∀ {n : Nat}, npk (yM mi) n = true → ∀ sig, parseMethodDescriptor (yM mi).desc = some sig → n = sig.parameters.length := fun {n} h sig hs => by
    have h2 := of_decide_eq_true h
    rw [hs] at h2
    exact (Option.some.inj h2).symm
  have hfr : (rmE d σ τ).frames + 1 ≤ R.frames := hRd.1
  have hlo : 8 + (mL mi + 11) + (rmE d σ τ).locals ≤ R.locals := by
    show 8 + (mL mi + 11) + (60 * d + 600) ≤ R.locals
    omega
  have hlen := argks_len has
  have hS3 : CallFix p m c cc nL s args lw_gd own := ⟨hx, hb, hml, hown, hts⟩
  rcases so with _ | _ | so
  · rw [hso] at hk
    have hk : lwk ((wxM mi).getD 2 0) (.static (yM mi)) = true := hk
    have hst : (Cond.static (yM mi)).before args s = true := hts _ (gd_in (lwk_m hk) rfl)
    have hstk : (F0 m pc ls ((as ++ t).map (trV bs ra))).stack = (as.reverse.map (trV bs ra)).reverse ++ t.map (trV bs ra) := by
      show (as ++ t).map (trV bs ra) = _
      rw [← List.map_reverse, List.reverse_reverse, List.map_append]
    have hnl : (as.reverse.map (trV bs ra)).length = ks.length := by rw [List.length_map, List.length_reverse]; exact hlen
    rcases hlk with hlk | ⟨-, hlk⟩
    · exact va_runS hS3 hM ⟨⟨rfl, rfl, hfr, hlo, hpay, List.mem_cons_self, hcode, hinit, hcl, hsig hnp, hts _ (gd_in (lwk_m hlk) rfl)⟩, hst⟩ ⟨hbl, hpre⟩ rfl hnl hls hstk hcat hd hfit
    · exact va_runSN (host := "LateBinder") hS3 hM ⟨⟨⟨rfl, rfl, hfr, hlo, hpay, List.mem_cons_self⟩, hcode, hinit, hcl, hsig hnp, va_Nw.use rfl (hST.2.2.2.2.1 _ (List.mem_filter.mpr ⟨lwk_m hlk, rfl⟩))⟩, hst, trivial⟩ ⟨hbl, hpre⟩ rfl hnl hls hstk hcat hd hfit
  · rw [hso] at hk
    have hk := hk
    simp only [Nat.zero_add, Bool.and_eq_true] at hk
    obtain ⟨k1, k2, k3⟩ := hk
    obtain ⟨as', v, rfl, hv⟩ := argks_last has (hrk rfl)
    have hrecv : ∃ b, v = .ref b ∧ ∃ cellB : Cell, H[trN bs ra b]? = some cellB ∧ cellB.vm.isStatics = false ∧ s.vm.findClass (yM mi).cls = some cellB.cls := by
      cases hr3 : Nat.beq (rkM mi) 3 with
      | true =>
        rw [hr3] at k3
        have e3 := Nat.eq_of_beq_eq_true hr3
        rw [e3] at hv
        obtain ⟨b, rfl, hb1, hb2⟩ := hv
        obtain ⟨ki, hki, hxe, htr⟩ := key_ra F0' hb1 hb2
        refine ⟨b, rfl, ?_⟩
        rw [htr, of_decide_eq_true k3]
        obtain ⟨cell, r1, r2, r3, -⟩ := (hST.1.1 ki hki).2.1.kept hS.2.1
        exact ⟨cell, r1, r2, r3⟩
      | false =>
        rw [hr3] at k3
        simp only [cond_false] at k3
        split at k3
        case h_2 => cases k3
        rename_i q hq
        simp only [Bool.and_eq_true, decide_eq_true_eq] at k3
        have hv : argk σ ((rkM mi - 4) + 4) v := by rw [Nat.sub_add_cancel k3.1]; exact hv
        obtain ⟨b, rfl, hb1, hb2⟩ := hv
        refine ⟨b, rfl, ?_⟩
        have hc9 : rkM mi - 4 < 9 := by simpa using (List.getElem?_eq_some_iff.mp hq).1
        rw [trN_lt (nc1000 (Nat.lt_of_lt_of_le hb1 hnc)), ← k3.2]
        exact va_recv (q0 := b) hK hP hq (by rw [wsO_get hb1, cel_obj hb2 (by omega)])
    obtain ⟨b, rfl, hrec⟩ := hrecv
    have hsel : (Cond.selects (yM mi).cls (yM mi) (yM mi)).before args s = true := hts _ (gd_in (lwk_m k2) rfl)
    have hins : (Cond.instanceMethod (yM mi)).before args s = true := hts _ (gd_in (lwk_m k1) rfl)
    have e1 : (as' ++ [Value.ref b]).reverse.map (trV bs ra) = .ref (trN bs ra b) :: as'.reverse.map (trV bs ra) := by simp [trV]
    have hnl : (as'.reverse.map (trV bs ra)).length = ks.length - 1 := by
      rw [List.length_map, List.length_reverse]
      simp at hlen
      omega
    have hstk : (F0 m pc ls (((as' ++ [Value.ref b]) ++ t).map (trV bs ra))).stack = (as'.reverse.map (trV bs ra)).reverse ++ .ref (trN bs ra b) :: t.map (trV bs ra) := by
      show ((as' ++ [Value.ref b]) ++ t).map (trV bs ra) = _
      simp [trV]
    rw [e1] at hpre ⊢
    rcases hlk with hlk | ⟨-, hlk⟩
    · exact va_runV hS3 hM ⟨⟨rfl, rfl, hfr, hlo, hpay, List.mem_cons_self, hcode, hinit, hcl, hsig hnp, hts _ (gd_in (lwk_m hlk) rfl)⟩, hins, hsel⟩ ⟨hbl, hrec, hpre⟩ rfl hnl hls hstk hcat hd hfit
    · exact va_runVN (host := "LateBinder") hS3 hM ⟨⟨⟨rfl, rfl, hfr, hlo, hpay, List.mem_cons_self⟩, hcode, hinit, hcl, hsig hnp, va_Nw.use rfl (hST.2.2.2.2.1 _ (List.mem_filter.mpr ⟨lwk_m hlk, rfl⟩))⟩, hins, hsel⟩ ⟨hbl, hrec, hpre⟩ rfl hnl hls hstk hcat hd hfit
  · rw [hso] at hk
    have hso2 : so = 0 := by omega
    subst hso2
    have hk : (lwk ((wxM mi).getD 2 0) (.instanceMethod (yM mi)) && (decide ((yM mi).name = "<init>") && decide (rM mi = none))) = true := hk
    simp only [Bool.and_eq_true, decide_eq_true_eq] at hk
    obtain ⟨k1, k2, k3⟩ := hk
    obtain ⟨as', b, rfl⟩ := hrk2 rfl
    have hins : (Cond.instanceMethod (yM mi)).before args s = true := hts _ (gd_in (lwk_m k1) rfl)
    have e1 : (as' ++ [Value.ref b]).reverse.map (trV bs ra) = .ref (trN bs ra b) :: as'.reverse.map (trV bs ra) := by simp [trV]
    have hnl : (as'.reverse.map (trV bs ra)).length = ks.length - 1 := by
      rw [List.length_map, List.length_reverse]
      simp at hlen
      omega
    have hstk : (F0 m pc ls (((as' ++ [Value.ref b]) ++ t).map (trV bs ra))).stack = (as'.reverse.map (trV bs ra)).reverse ++ .ref (trN bs ra b) :: t.map (trV bs ra) := by
      show ((as' ++ [Value.ref b]) ++ t).map (trV bs ra) = _
      simp [trV]
    have hpay3 : ∀ w ∈ wsM mi, ∀ (a' : Array Value) (U : State), s.WarmedH U.vm → w.before a' U = true := hpay
    have hmem : Cond.code (yM mi) (cM mi) (mL mi) none ∈ wsM mi := by
      have : Cond.code (yM mi) (cM mi) (mL mi) (rM mi) ∈ wsM mi := List.mem_cons_self
      rw [k3] at this
      exact this
    rw [k3] at hcode
    rw [e1] at hpre ⊢
    rcases hlk with hlk | ⟨-, hlk⟩
    · exact va_runI hS3 hM ⟨⟨rfl, rfl, hfr, hlo, hpay3, hmem, hcode, hinit, hcl, hsig hnp, hts _ (gd_in (lwk_m hlk) rfl)⟩, k2, hins⟩ ⟨hbl, hpre⟩ rfl hnl hls hstk hcat hd hfit
    · exact va_runIN (host := "LateBinder") hS3 hM ⟨⟨⟨rfl, rfl, hfr, hlo, hpay3, hmem⟩, hcode, hinit, hcl, hsig hnp, va_Nw.use rfl (hST.2.2.2.2.1 _ (List.mem_filter.mpr ⟨lwk_m hlk, rfl⟩))⟩, k2, hins⟩ ⟨hbl, hpre⟩ rfl hnl hls hstk hcat hd hfit
end CALL3
