-- X: WHAT STANDS OF OLD beside the constants, the script, the texts; its making at the law's entry
def XX (bs : Nat) (ra : Nat → Nat) (U : State) (H : Heap) : Prop := XK bs ra U H ∧ XS bs ra U H ∧ (va_AO "LateBinder$Bench" U ∧ va_AO "LateBinder$Key" U) ∧ XTh bs U H ∧ XM U
theorem XK.moved {bs : Nat} {ra : Nat → Nat} {u U : State} {H : Heap} (hvm : u.vm.Alike U.vm) (h : XK bs ra u H) : XK bs ra U H := by
  obtain ⟨⟨t, h1, h2⟩, h3⟩ := h
  exact ⟨⟨t, h1.moved hvm, h2.moved hvm⟩, fun i hi => (h3 i hi).moved hvm⟩
theorem XK.kept {bs : Nat} {ra : Nat → Nat} {U : State} {H H1 : Heap} (h : XK bs ra U H) (hq : ∀ a : Nat, a < H.size → ¬ zA bs a → H1[a]? = H[a]?) : XK bs ra U H1 := by
  obtain ⟨⟨t, h1, h2⟩, h3⟩ := h
  exact ⟨⟨t, h1.kept hq, h2.kept hq⟩, fun i hi => (h3 i hi).kept hq⟩
theorem zTh_warm {s U : State} (hW : s.WarmedH U.vm) (h : ∀ w ∈ zTh, va_Nw w s) : ∀ w ∈ zTh, va_Nw w U := by
  have h1 := h _ (List.mem_cons_self)
  have h2 := h _ (List.mem_cons_of_mem _ List.mem_cons_self)
  have h3 := h _ (List.mem_cons_of_mem _ (List.mem_cons_of_mem _ List.mem_cons_self))
  have h4 := h _ (List.mem_cons_of_mem _ (List.mem_cons_of_mem _ (List.mem_cons_of_mem _ List.mem_cons_self)))
  exact List.forall_mem_cons.mpr ⟨va_Nw.warmD hW h1, List.forall_mem_cons.mpr ⟨va_Nw.warmD hW h2, List.forall_mem_cons.mpr ⟨va_Nw.warmD hW h3, List.forall_mem_cons.mpr ⟨va_Nw.warmC hW h4, fun _ z => absurd z List.not_mem_nil⟩⟩⟩⟩
theorem XX_st (bs : Nat) (ra : Nat → Nat) : Xst bs (XX bs ra) := by
  refine ⟨fun s U H hW h => ?_, fun U H H1 hq h => ?_, fun U V H hV h => ?_⟩
  · obtain ⟨h1, h2, ⟨h3, h4⟩, ⟨h5, h6, h7⟩, h8⟩ := h
    have ha := hW.alike
    exact ⟨h1.moved ha, h2.moved ha, ⟨va_AO.moved ha h3, va_AO.moved ha h4⟩, ⟨zTh_warm hW h5, vx_Zq.moved ha h6, vx_Zq.moved ha h7⟩, h8.moved ha⟩
  · obtain ⟨h1, h2, h3, ⟨h5, h6, h7⟩, h8⟩ := h
    exact ⟨h1.kept hq, h2.kept hq, h3, ⟨h5, h6.kept hq, h7.kept hq⟩, h8⟩
  · obtain ⟨h1, h2, ⟨h3, h4⟩, ⟨h5, h6, h7⟩, h8⟩ := h
    have ha : U.vm.Alike V.vm := by rw [hV]; exact Vm.Alike.refl _
    exact ⟨h1.moved ha, h2.moved ha, ⟨va_AO.moved ha h3, va_AO.moved ha h4⟩, ⟨fun w hw => va_Nw.same (List.all_eq_true.mp zTh_ot w hw) hV.symm (h5 w hw), vx_Zq.moved ha h6, vx_Zq.moved ha h7⟩, h8.moved ha⟩
section START
variable {s : State} {b L : Nat} {xs : Nat → Int32}
/-- where what was there before lies -/
def raO (b : Nat) (ad aK aV : Nat → Nat) (k : Nat) : Nat := if k = 2000 then b else if k < 1020 then ad (k - 1000) else if k < 1030 then aK (k - 1020) else aV (k - 1030)
theorem raO_b {b : Nat} {ad aK aV : Nat → Nat} : raO b ad aK aV 2000 = b := if_pos rfl
theorem raO_k {b : Nat} {ad aK aV : Nat → Nat} {i : Nat} (h : i < 10) : raO b ad aK aV (1000 + i) = ad i := by
  unfold raO
  rw [if_neg (by omega), if_pos (by omega), Nat.add_sub_cancel_left]
theorem raO_s {b : Nat} {ad aK aV : Nat → Nat} {i : Nat} (h : i < 10) : raO b ad aK aV (1020 + i) = aK i := by
  unfold raO
  rw [if_neg (by omega), if_neg (by omega), if_pos (by omega), Nat.add_sub_cancel_left]
theorem raO_v {b : Nat} {ad aK aV : Nat → Nat} {i : Nat} (h : i < 10) : raO b ad aK aV (1030 + i) = aV i := by
  unfold raO
  rw [if_neg (by omega), if_neg (by omega), if_neg (by omega), Nat.add_sub_cancel_left]
set_option maxHeartbeats 2000000 in
theorem st_start (hts : ∀ w ∈ lw_tbl, w.before #[Value.ref b] s = true) (hX : va_X b L xs s s.heap) (hbl : b < s.heap.size) (hgv : (Jvm.Cond.and given_1 narrow_1).before #[Value.ref b] s = true) :
    ∃ ra : Nat → Nat, ra 2000 = b ∧ STt s.heap.size ra (L, xs) (XX s.heap.size ra) s s.heap := by
  have hA : ∀ a : Nat, a < s.heap.size → ¬ zA s.heap.size a := fun a h z => absurd (show s.heap.size ≤ a from z) (by omega)
  have hg : ∀ {k : Nat} {w : Cond}, gvA[k]? = some w → w.before #[Value.ref b] s = true := fun {k w} h => flat_of_before _ hgv w (List.mem_of_getElem? h)
  have hw : ∀ {k : Nat} {w : Cond}, lw_tbl[k]? = some w → w.before #[Value.ref b] s = true := fun {k w} h => hts w (List.mem_of_getElem? h)
  obtain ⟨ad, hE, hEe⟩ := va_Enof2 (E := "LateBinder$Key") (d := "LLateBinder$Key;") (nm := zkn) (F := []) (A := zA s.heap.size) (args := #[Value.ref b]) (s := s) (fun i hi => hw (w_ks i hi)) (hts _ wK_ini) (fun i hi => hg (g_ex i hi)) (fun q hq => absurd hq List.not_mem_nil)
    (fun i j hi hj hij => (g_ne i hi j hj hij).elim (fun z => .inl (hg z)) (fun z => .inr (hg z))) hA
  obtain ⟨aK, aV, hS, hSe⟩ := vk_Sof (args := #[Value.ref b]) (s := s) (N := 10) (tm := tSt) (len := slen) (byt := sbyt) (A := zA s.heap.size) (by decide +kernel) (fun i hi => hg (g_sx i hi)) (fun i hi => hg (g_sc i hi)) (fun i hi => hg (g_sa i hi)) (fun i hi => hg (g_sl i hi)) (fun i hi j hj => hg (g_se i hi j hj))
    (fun i j hi hj hij => (g_sn i hi j hj hij).elim (fun z => .inl (hg z)) (fun z => .inr (hg z))) hA
  have hEe : ∀ i, i < 10 → (tKy i).eval #[Value.ref b] s none [] s = some (.ref (ad i)) := hEe
  refine ⟨raO b ad aK aV, raO_b, ?_, ?_, ?_, ?_, ?_, ?_, ?_, ?_, ?_, ?_⟩
  · refine ⟨fun i hi => ?_, fun i j hi hj e => ?_⟩
    · show va_Z _ _ _ (.ref (raO b ad aK aV (1000 + i))) _ _ _ ∧ va_O _ (raO b ad aK aV (1000 + i)) _ _ _ ∧ ∀ q ∈ [], _
      rw [raO_k hi]
      exact ⟨(hE.1 i hi).1, (hE.1 i hi).2.1, fun q hq => absurd hq List.not_mem_nil⟩
    · have e : raO b ad aK aV (1000 + i) = raO b ad aK aV (1000 + j) := e
      rw [raO_k hi, raO_k hj] at e
      exact hE.2 i j hi hj e
  · rw [raO_b]
    exact hX
  · rw [raO_b]
    exact hbl
  · intro i hi
    rw [raO_s hi]
    exact vk_R.of (hw (w_sr i hi)) (hSe i hi)
  · intro w hw9
    exact va_Nw.of (List.all_eq_true.mp w_nst w hw9) (hts w (List.mem_filter.mp hw9).1)
  · obtain ⟨t, ht, hT⟩ := va_Tof (args := #[Value.ref b]) (s := s) (tm := tAl) (ty := .object "LateBinder$Key") (N := 10) (f := fun i => .ref (ad i)) (A := zA s.heap.size) (by decide) (hg g_ar) (va_eqt (hg g_al)) (fun j hj => by
      obtain ⟨y, y1, y2⟩ := Cond.eq_one (show (Cond.eq (.elem tAl (.int (Int32.ofNat j))) (tKy j)).holds #[Value.ref b] s none s [] = true from hg (g_el j hj))
      rw [hEe j hj] at y2
      rw [y1, ← y2]) hA
    refine ⟨⟨t, va_Zref (hts _ w_al) (hts _ wK_ini) ht hA, ?_⟩, fun i hi => ?_⟩
    · obtain ⟨cell, a1, a2, a3, a4, a5, a6, a7⟩ := hT
      exact ⟨cell, a1, a2, a3, a4, a5, (fun j hj => by show cell.slots[j]? = some (Value.ref (raO b ad aK aV (1000 + j))); rw [raO_k hj]; exact a6 j hj), a7⟩
    · rw [raO_k hi]
      exact vk_OFof (hEe i hi) (va_eqtl (hg (g_cd i hi))) hA
  · refine ⟨⟨fun i hi => ?_, fun i j hi hj e => ?_⟩, va_Zof (hts _ w_co) (hts _ w_st) (va_eqt (hg g_co)) hA, va_Zqof (hts _ w_si) (hts _ w_pi) (hg g_si) hA⟩
    · show va_O _ (raO b ad aK aV (1020 + i)) _ _ _ ∧ va_OF _ _ _ _ (raO b ad aK aV (1020 + i)) _ _ _ ∧ va_OF _ _ _ (.ref (raO b ad aK aV (1030 + i))) (raO b ad aK aV (1020 + i)) _ _ _ ∧ va_T _ (raO b ad aK aV (1030 + i)) _ _ _ _ _
      rw [raO_s hi, raO_v hi]
      exact hS.1 i hi
    · have e : raO b ad aK aV (1020 + i) = raO b ad aK aV (1020 + j) := e
      rw [raO_s hi, raO_s hj] at e
      exact hS.2 i j hi hj e
  · exact ⟨va_AO.of (hts _ w_ob), va_AO.of (hts _ w_ok)⟩
  · refine ⟨List.forall_mem_cons.mpr ⟨va_Nw.of rfl (hts _ wT_d1), List.forall_mem_cons.mpr ⟨va_Nw.of rfl (hts _ wT_d2), List.forall_mem_cons.mpr ⟨va_Nw.of rfl (hts _ wT_d3), List.forall_mem_cons.mpr ⟨va_Nw.of rfl (hts _ wT_ca), fun _ z => absurd z List.not_mem_nil⟩⟩⟩⟩, vx_Zqof (hts _ w_us) (hts _ w_ti) (hg g_us) hA, vx_Zqof (hts _ w_ss) (hts _ w_ti) (hg g_ss) hA⟩
  · exact XM.of (hts _ w_oi)
theorem kn_start (hts : ∀ w ∈ lw_tbl, w.before #[Value.ref b] s = true) : ∃ (cA dC : Nat → ClassId) (dI : Nat → Nat → Nat), va_K (dC, dI) clz (tyz cA) s := by
  have hk : ∀ i : Nat, ∃ q : ClassId × (Nat → Nat), ∀ r : vw_C, clz[i]? = some r → u_Kn s r.1 r.2.1 r.2.2 q.1 q.2 := by
    intro i
    cases hi : clz[i]? with
    | none => exact ⟨(default, fun _ => 0), fun r h => by cases h⟩
    | some r =>
      have h9 : i < 9 := by simpa using (List.getElem?_eq_some_iff.mp hi).1
      have hin := w_in i h9
      rw [hi] at hin
      obtain ⟨cC, iS, h⟩ := u_known (C := r.1) (T := r.2.1) (N := r.2.2) (n := r.2.2) hts (clz_in i r hi) (hts _ (List.mem_of_getElem? hin))
      exact ⟨(cC, iS), fun r' h' => by cases h'; exact h⟩
  obtain ⟨f, hf⟩ := Classical.axiomOfChoice hk
  obtain ⟨a20, k20, m20, n20, c20, d20⟩ := Cond.arrayClass_spec (hts _ w_ai)
  obtain ⟨a21, k21, m21, n21, c21, d21⟩ := Cond.arrayClass_spec (hts _ w_al2)
  obtain ⟨a22, k22, m22, n22, c22, d22⟩ := Cond.arrayClass_spec (hts _ w_ab)
  obtain ⟨m23, a23, k23, p23, -, c23, d23, n23⟩ := arrayOverA_spec (hts _ w_oi)
  obtain ⟨m24, a24, k24, p24, -, c24, d24, n24⟩ := Cond.arrayOver_spec (hts _ w_ob)
  obtain ⟨m25, a25, k25, p25, -, c25, d25, n25⟩ := Cond.arrayOver_spec (hts _ w_ok)
  refine ⟨fun k => if k = 20 then a20 else if k = 21 then a21 else if k = 22 then a22 else if k = 23 then a23 else if k = 24 then a24 else a25, fun i => (f i).1, fun i => (f i).2, fun c q hq => hf c q hq, fun k q hq => ?_⟩
  match k, hq with
  | 0, hq => cases hq; exact ⟨fun N z => ⟨(fun k h => by cases h), k20, c20, m20, d20⟩, n20⟩
  | 1, hq => cases hq; exact ⟨fun N z => ⟨(fun k h => by cases h), k21, c21, m21, d21⟩, n21⟩
  | 2, hq => cases hq; exact ⟨fun N z => ⟨(fun k h => by cases h), k22, c22, m22, d22⟩, n22⟩
  | 3, hq => cases hq; exact ⟨fun N z => ⟨(fun k h => by cases h), k23, c23, m23, d23⟩, n23⟩
  | 4, hq => cases hq; exact ⟨fun N z => ⟨(fun k h => by cases h), k24, c24, m24, d24⟩, k24, m24, c24, d24, p24, n24⟩
  | 5, hq => cases hq; exact ⟨fun N z => ⟨(fun k h => by cases h), k25, c25, m25, d25⟩, k25, m25, c25, d25, p25, n25⟩
  | k + 6, hq => simp [tyz] at hq
end START
