section STEP
variable {bs : Nat} {ra : Nat → Nat} {cA : Nat → ClassId} {dC : Nat → ClassId} {dI : Nat → Nat → Nat} {ρ : Nat × (Nat → Int32)} {X : State → Heap → Prop}
variable {p : Program} {l : Launch} {e : Env} {R : Room} {s : State} {m : MethodId} {args : Array Value} {below : List Frame} {meth : Method} {c : Code} {cc : ByteArray} {own : String} {nL : Nat} {Q : State → Prop} {c0 s0 : Nat} {k : Kn} {r : List Value × Sg}
theorem nc1000 {q : Nat} (h : q < NC) : q < 1000 := Nat.lt_trans h (by decide)
theorem wc20 {σ : Sg} {q : Nat} (hq : q < σ.1.1) (h : zC q = 20) : (wsO bs ra cA σ)[q]? = some (bs + q, .inl (cA 20, zN q, .inl (σ.2.2.2.1 q))) := by
  rw [wsO_get hq]
  unfold cel
  rw [h]
  rfl
theorem cl20 {σ : Sg} {q : Nat} (h : zC q = 20) : cel bs ra cA σ q = .inl (cA 20, zN q, .inl (σ.2.2.2.1 q)) := by
  unfold cel
  rw [h]
  rfl
theorem wc21 {σ : Sg} {q : Nat} (hq : q < σ.1.1) (h : zC q = 21) : (wsO bs ra cA σ)[q]? = some (bs + q, .inl (cA 21, zN q, .inr (.inl (σ.2.2.2.2 q)))) := by
  rw [wsO_get hq]
  unfold cel
  rw [h]
  rfl
theorem cl21 {σ : Sg} {q : Nat} (h : zC q = 21) : cel bs ra cA σ q = .inl (cA 21, zN q, .inr (.inl (σ.2.2.2.2 q))) := by
  unfold cel
  rw [h]
  rfl
theorem wc22 {σ : Sg} {q : Nat} (hq : q < σ.1.1) (h : zC q = 22) : (wsO bs ra cA σ)[q]? = some (bs + q, .inl (cA 22, zN q, .inl (σ.2.2.2.1 q))) := by
  rw [wsO_get hq]
  unfold cel
  rw [h]
  rfl
theorem cl22 {σ : Sg} {q : Nat} (h : zC q = 22) : cel bs ra cA σ q = .inl (cA 22, zN q, .inl (σ.2.2.2.1 q)) := by
  unfold cel
  rw [h]
  rfl
theorem wc23 {σ : Sg} {q : Nat} (hq : q < σ.1.1) (h : zC q = 23) : (wsO bs ra cA σ)[q]? = some (bs + q, .inl (cA 23, zN q, .inr (.inr (.inr (.inr fun j => (σ.2.1 q j).map (trN bs ra)))))) := by
  rw [wsO_get hq]
  unfold cel
  rw [h]
  rfl
theorem cl23 {σ : Sg} {q : Nat} (h : zC q = 23) : cel bs ra cA σ q = .inl (cA 23, zN q, .inr (.inr (.inr (.inr fun j => (σ.2.1 q j).map (trN bs ra))))) := by
  unfold cel
  rw [h]
  rfl
theorem wc24 {σ : Sg} {q : Nat} (hq : q < σ.1.1) (h : zC q = 24) : (wsO bs ra cA σ)[q]? = some (bs + q, .inl (cA 24, zN q, .inr (.inr (.inr (.inr fun j => (σ.2.1 q j).map (trN bs ra)))))) := by
  rw [wsO_get hq]
  unfold cel
  rw [h]
  rfl
theorem cl24 {σ : Sg} {q : Nat} (h : zC q = 24) : cel bs ra cA σ q = .inl (cA 24, zN q, .inr (.inr (.inr (.inr fun j => (σ.2.1 q j).map (trN bs ra))))) := by
  unfold cel
  rw [h]
  rfl
theorem wc25 {σ : Sg} {q : Nat} (hq : q < σ.1.1) (h : zC q = 25) : (wsO bs ra cA σ)[q]? = some (bs + q, .inl (cA 25, zN q, .inr (.inr (.inr (.inr fun j => (σ.2.2.1 q j).map (trN bs ra)))))) := by
  rw [wsO_get hq]
  unfold cel
  rw [h]
  rfl
theorem cl25 {σ : Sg} {q : Nat} (h : zC q = 25) : cel bs ra cA σ q = .inl (cA 25, zN q, .inr (.inr (.inr (.inr fun j => (σ.2.2.1 q j).map (trN bs ra))))) := by
  unfold cel
  rw [h]
  rfl
/-- a store into an object's field: the world behind it -/
theorem put_ws {σ τ : Sg} {q ci j : Nat} {v : Value} (hn : τ.1.1 = σ.1.1) (hc : zC q = ci) (hc9 : ci < 20) (ho : ∀ i, i ≠ q → sam σ τ i) (hf : ∀ i, i ≠ j → fv bs ra ci τ q i = fv bs ra ci σ q i) (hj : fv bs ra ci τ q j = v) :
    (wsO bs ra cA σ).set q (bs + q, .inr (ci, ((List.range (zN q)).map (fv bs ra ci σ q)).set j v)) = wsO bs ra cA τ := by
  rw [← wsO_set (s := σ) (t := τ) hn (fun i hi => sam_cel (ho i hi)), cel_obj hc hc9, fs_set hf hj]
theorem arr_ws {σ τ : Sg} {q : Nat} {E : va_E} {H1 : Heap} (hP : va_P (dC, dI) clz ((wsO bs ra cA σ).set q (bs + q, E)) H1) (hn : τ.1.1 = σ.1.1) (ho : ∀ i, i ≠ q → sam σ τ i) (hE : cel bs ra cA τ q = E) : va_P (dC, dI) clz (wsO bs ra cA τ) H1 := by
  rw [← wsO_set hn (fun i hi => sam_cel (ho i hi)), hE]
  exact hP
set_option maxHeartbeats 4000000 in
theorem snd_get (F : Fr bs ra cA dC dI ρ X p s m args c cc own nL) {pc n x : Nat} {a : List Nat} {xs st : List Value} {σ : Sg} (hd : decode cc pc = .ok (.getfield x, 3)) (hg : gfk own x a = true)
    (hk : ∀ n ys t τ, leS σ τ → k n ys t τ = some r → Gl bs ra cA dC dI p l e R s m args below meth c nL Q c0 s0 n ys t τ)
    (h : zp1 st (fun v t => zgf zC σ v a fun w => k (pc + 3) xs (w :: t) σ) = some r) : Gl bs ra cA dC dI p l e R s m args below meth c nL Q c0 s0 pc xs st σ := by
  obtain ⟨hx, hb, hml, hown, hts, hK, hST, hbs⟩ := F
  intro ls H locs cells slots hnc hl hP hS hc hs
  replace h := zp1_i h
  obtain ⟨v, t, rfl, h⟩ := h
  replace h := zgf_i h
  obtain ⟨kd, ci, j, t', q, rfl, rfl, hq, hqc, h⟩ := h
  have hq2 : q < NC := Nat.lt_of_lt_of_le hq hnc
  unfold gfk at hg
  split at hg
  case h_2 => cases hg
  rename_i a' kd' ci' j' w' he
  cases he
  split at hg
  case h_2 => cases hg
  rename_i cq hcq
  obtain ⟨C, T, N⟩ := cq
  simp only [Bool.and_eq_true, decide_eq_true_eq, Bool.or_eq_true] at hg
  obtain ⟨hj, hkd, hw⟩ := hg
  have hN : N = zN q := zN_ok hq2 hqc hcq
  have hc9 : ci < 9 := by simpa using (List.getElem?_eq_some_iff.mp hcq).1
  have hcell : (wsO bs ra cA σ)[q]? = some (bs + q, .inr (ci, (List.range (zN q)).map (fv bs ra ci σ q))) := by rw [wsO_get hq, cel_obj hqc (by omega)]
  have key : ∀ w : Value, trV bs ra w = fv bs ra ci σ q j → k (pc + 3) xs (w :: t) σ = some r → W p l e R s m args below meth c H locs cells slots Q (F0 m pc ls ((Value.ref q :: t).map (trV bs ra))) := by
    intro w hwv hh
    have hgo := hk _ _ _ _ (leS.rf σ) hh ls H locs cells slots hnc hl hP hS hc hs
    rw [List.map_cons, hwv] at hgo
    rw [List.map_cons, show trV bs ra (.ref q) = .ref (bs + q) by show Value.ref (trN bs ra q) = _; rw [trN_lt (nc1000 hq2)]]
    rcases hw with hw | hw
    · exact va_get (D := (dC, dI)) (ci := ci) (C := C) (T := T) (N := N) hx hb hts (gd_lays ci _ hcq) hown hK hP q hcell hcq j hj (hts _ (gd_in (lwk_m hw) rfl)) (fun _ h9 => by
        have e1 : (T j).1 = C := clz_own ci _ hcq j hj
        rw [e1] at h9; exact h9) (fs_get (by rw [← hN]; exact hj)) hd hgo
    · exact va_getN (D := (dC, dI)) (ci := ci) (C := C) (T := T) (N := N) hx hb hts (gd_lays ci _ hcq) hown hK hP q hcell hcq j hj (va_Nw.use rfl (hST.2.2.2.2.1 _ (List.mem_filter.mpr ⟨lwk_m hw, rfl⟩))) (fun _ h9 => by
        have e1 : (T j).1 = C := clz_own ci _ hcq j hj
        rw [e1] at h9; exact h9) (fs_get (by rw [← hN]; exact hj)) hd hgo
  rcases kd with _ | _ | _ | _ | kd <;> exact key _ (by unfold fv; rw [← hkd]; rfl) h
set_option maxHeartbeats 4000000 in
theorem snd_put (F : Fr bs ra cA dC dI ρ X p s m args c cc own nL) {ini : Bool} (hini : ini = true → meth.name = "<init>") {pc x : Nat} {a : List Nat} {xs st : List Value} {σ : Sg} (hd : decode cc pc = .ok (.putfield x, 3)) (hg : pfk own ini x a = true)
    (hk : ∀ n ys t τ, leS σ τ → k n ys t τ = some r → Gl bs ra cA dC dI p l e R s m args below meth c nL Q c0 s0 n ys t τ)
    (h : zp2 st (fun v w t => zpf zC σ v w a fun τ => k (pc + 3) xs t τ) = some r) : Gl bs ra cA dC dI p l e R s m args below meth c nL Q c0 s0 pc xs st σ := by
  obtain ⟨hx, hb, hml, hown, hts, hK, hST, hbs⟩ := F
  intro ls H locs cells slots hnc hl hP hS hc hs
  replace h := zp2_i h
  obtain ⟨v, w, t, rfl, h⟩ := h
  replace h := zpf_i h
  obtain ⟨kd, ci, j, t', q, rfl, rfl, hq, hqc, h⟩ := h
  have hq2 : q < NC := Nat.lt_of_lt_of_le hq hnc
  unfold pfk at hg
  split at hg
  case h_2 => cases hg
  rename_i a' kd' ci' j' w' he
  cases he
  split at hg
  case h_2 => cases hg
  rename_i cq hcq
  obtain ⟨C, T, N⟩ := cq
  simp only [Bool.and_eq_true, decide_eq_true_eq, Bool.or_eq_true, Bool.not_eq_true'] at hg
  obtain ⟨hj, hkd, hw, hfin⟩ := hg
  have hN : N = zN q := zN_ok hq2 hqc hcq
  have hc9 : ci < 9 := by simpa using (List.getElem?_eq_some_iff.mp hcq).1
  have hcell : (wsO bs ra cA σ)[q]? = some (bs + q, .inr (ci, (List.range (zN q)).map (fv bs ra ci σ q))) := by rw [wsO_get hq, cel_obj hqc (by omega)]
  have hfk := fkb_ok ci _ hcq j hj
  have hTY : parseFieldDescriptor (T j).2.2.1 = some (TY ci j) := clz_ty ci _ hcq j hj
  have e1 : (T j).1 = C := clz_own ci _ hcq j hj
  have key : ∀ (τ : Sg), τ.1 = σ.1 → (∀ i, i ≠ q → sam σ τ i) → (∀ i, i ≠ j → fv bs ra ci τ q i = fv bs ra ci σ q i) → fv bs ra ci τ q j = trV bs ra w → narrow (TY ci j) (trV bs ra w) = trV bs ra w ∧ fits (TY ci j) (trV bs ra w) = true → k (pc + 3) xs t τ = some r → W p l e R s m args below meth c H locs cells slots Q (F0 m pc ls ((w :: Value.ref q :: t).map (trV bs ra))) := by
    intro τ ht1 hsam hfo hfj hnf hh
    have hle : leS σ τ := by unfold leS; rw [ht1]; exact leS.rf σ
    rw [List.map_cons, List.map_cons, show trV bs ra (.ref q) = .ref (bs + q) by show Value.ref (trN bs ra q) = _; rw [trN_lt (nc1000 hq2)]]
    have hset := put_ws (bs := bs) (ra := ra) (cA := cA) (σ := σ) (τ := τ) (q := q) (ci := ci) (j := j) (v := trV bs ra w) (by rw [ht1]) hqc (by omega) hsam hfo hfj
    have fin : ∀ (H1 : Heap) (locs1 : List Loc), va_P (dC, dI) clz ((wsO bs ra cA σ).set q (bs + q, .inr (ci, ((List.range (zN q)).map (fv bs ra ci σ q)).set j (trV bs ra w)))) H1 → va_D (zA bs) ((wsO bs ra cA σ).set q (bs + q, .inr (ci, ((List.range (zN q)).map (fv bs ra ci σ q)).set j (trV bs ra w)))) → va_S (zA bs) s.heap H1 locs1 → W p l e R s m args below meth c H1 locs1 cells slots Q (F0 m (pc + 3) ls (t.map (trV bs ra))) := by
      intro H1 locs1 hP1 _ hS1
      rw [hset] at hP1
      exact hk _ _ _ _ hle hh ls H1 locs1 cells slots (by rw [ht1]; exact hnc) hl hP1 hS1 (by rw [ht1]; exact hc) (by rw [ht1]; exact hs)
    cases hff : (T j).2.2.2
    · exact va_put (D := (dC, dI)) (ci := ci) (C := C) (T := T) (N := N) hx hb hts (gd_lays ci _ hcq) (TY ci) (clz_ty ci _ hcq) (clz_nm ci _ hcq) hown hK hP wsO_D hS q hcell hcq j hj (hts _ (gd_in (lwk_m hw) rfl)) (fun _ h9 => by rw [e1] at h9; exact h9) hff hTY hnf.1 hnf.2 (by rw [List.length_map, List.length_range, ← hN]; exact hj) hd fin
    · have hfin2 := hfin.resolve_left (by rw [hff]; decide)
      exact va_putF (D := (dC, dI)) (ci := ci) (C := C) (T := T) (N := N) hx hb hts (gd_lays ci _ hcq) (TY ci) (clz_ty ci _ hcq) (clz_nm ci _ hcq) hown hK hP wsO_D hS q hcell hcq j hj (hts _ (gd_in (lwk_m hw) rfl)) (fun _ h9 => by rw [e1] at h9; exact h9) hff (hini hfin2.1) (by rw [e1]; exact hfin2.2) hTY hnf.1 hnf.2 (by rw [List.length_map, List.length_range, ← hN]; exact hj) hd fin
  unfold fkb at hfk
  rw [← hkd] at hfk
  have sI : ∀ x : Int32, ∀ i, i ≠ q → sam σ (σ.1, σ.2.1, σ.2.2.1, z2 σ.2.2.2.1 q j x, σ.2.2.2.2) i := fun x i hi => ⟨rfl, rfl, z2_ne hi, rfl⟩
  have fI : ∀ x : Int32, ∀ i, i ≠ j → fv bs ra ci (σ.1, σ.2.1, σ.2.2.1, z2 σ.2.2.2.1 q j x, σ.2.2.2.2) q i = fv bs ra ci σ q i := fun x i hi => by
    unfold fv
    split <;> first | rfl | (show Value.int (z2 σ.2.2.2.1 q j x q i) = _; rw [z2_eq, va_up, if_neg hi])
  rcases kd with _ | _ | _ | _ | _ | kd
  · replace h := zint_i h
    obtain ⟨x, rfl, h⟩ := h
    exact key (σ.1, σ.2.1, σ.2.2.1, z2 σ.2.2.2.1 q j x, σ.2.2.2.2) rfl (sI x) (fI x) (by unfold fv; rw [← hkd]; show Value.int (z2 σ.2.2.2.1 q j x q j) = _; rw [z2_eq, va_up, if_pos rfl]; rfl) (by rw [of_decide_eq_true hfk]; exact ⟨rfl, rfl⟩) h
  · replace h := zlon_i h
    obtain ⟨x, rfl, h⟩ := h
    refine key (σ.1, σ.2.1, σ.2.2.1, σ.2.2.2.1, z2 σ.2.2.2.2 q j x) rfl (fun i hi => ⟨rfl, rfl, rfl, z2_ne hi⟩) (fun i hi => ?_) (by unfold fv; rw [← hkd]; show Value.long (z2 σ.2.2.2.2 q j x q j) = _; rw [z2_eq, va_up, if_pos rfl]; rfl) (by rw [of_decide_eq_true hfk]; exact ⟨rfl, rfl⟩) h
    unfold fv
    split <;> first | rfl | (show Value.long (z2 σ.2.2.2.2 q j x q i) = _; rw [z2_eq, va_up, if_neg hi])
  · replace h := znul_i h
    obtain ⟨x, rfl, h⟩ := h
    refine key (σ.1, z2 σ.2.1 q j x, σ.2.2.1, σ.2.2.2.1, σ.2.2.2.2) rfl (fun i hi => ⟨z2_ne hi, rfl, rfl, rfl⟩) (fun i hi => ?_) (by unfold fv; rw [← hkd]; show trV bs ra (zr (z2 σ.2.1 q j x q j)) = _; rw [z2_eq, va_up, if_pos rfl]) (by rw [trV_zr]; exact ref_nar hfk _) h
    unfold fv
    split <;> first | rfl | (show trV bs ra (zr (z2 σ.2.1 q j x q i)) = _; rw [z2_eq, va_up, if_neg hi])
  · replace h := znul_i h
    obtain ⟨x, rfl, h⟩ := h
    refine key (σ.1, σ.2.1, z2 σ.2.2.1 q j x, σ.2.2.2.1, σ.2.2.2.2) rfl (fun i hi => ⟨rfl, z2_ne hi, rfl, rfl⟩) (fun i hi => ?_) (by unfold fv; rw [← hkd]; show trV bs ra (zr (z2 σ.2.2.1 q j x q j)) = _; rw [z2_eq, va_up, if_pos rfl]) (by rw [trV_zr]; exact ref_nar hfk _) h
    unfold fv
    split <;> first | rfl | (show trV bs ra (zr (z2 σ.2.2.1 q j x q i)) = _; rw [z2_eq, va_up, if_neg hi])
  · replace h := zint_i h
    obtain ⟨x, rfl, h⟩ := h
    replace h := ite_i h
    obtain ⟨hx01, h⟩ := h
    exact key (σ.1, σ.2.1, σ.2.2.1, z2 σ.2.2.2.1 q j x, σ.2.2.2.2) rfl (sI x) (fI x) (by unfold fv; rw [← hkd]; show Value.int (z2 σ.2.2.2.1 q j x q j) = _; rw [z2_eq, va_up, if_pos rfl]; rfl) (by rw [of_decide_eq_true hfk]; rcases hx01 with rfl | rfl <;> exact ⟨rfl, rfl⟩) h
  · cases hfk
/-- an int array's place read -/
theorem snd_ial (F : Fr bs ra cA dC dI ρ X p s m args c cc own nL) {pc : Nat} {xs st : List Value} {σ : Sg} (hd : decode cc pc = .ok (.iaload, 1))
    (hk : ∀ n ys t τ, leS σ τ → k n ys t τ = some r → Gl bs ra cA dC dI p l e R s m args below meth c nL Q c0 s0 n ys t τ)
    (h : zp2 st (fun v w t => zref v fun q => zint w fun i => zarr zC zN σ q 20 i fun j => k (pc + 1) xs (.int (σ.2.2.2.1 q j) :: t) σ) = some r) : Gl bs ra cA dC dI p l e R s m args below meth c nL Q c0 s0 pc xs st σ := by
  obtain ⟨hx, hb, hml, hown, hts, hK, hST, hbs⟩ := F
  intro ls H locs cells slots hnc hl hP hS hc hs
  replace h := zp2_i h
  obtain ⟨v, w, t, rfl, h⟩ := h
  replace h := zref_i h
  obtain ⟨q, rfl, h⟩ := h
  replace h := zint_i h
  obtain ⟨i, rfl, h⟩ := h
  replace h := zarr_i h
  obtain ⟨hq, hqc, hin, h⟩ := h
  have hq2 : q < NC := Nat.lt_of_lt_of_le hq hnc
  have hgo := hk _ _ _ _ (leS.rf σ) h ls H locs cells slots hnc hl hP hS hc hs
  show W p l e R s m args below meth c H locs cells slots Q (F0 m pc ls (.int i :: .ref (trN bs ra q) :: t.map (trV bs ra)))
  rw [trN_lt (nc1000 hq2)]
  exact va_iald (D := (dC, dI)) hx hb hK hP q 0 (cA := cA 20) (n := zN q) (f := σ.2.2.2.1 q) (wc20 hq hqc) rfl hin hd hgo
theorem snd_lal (F : Fr bs ra cA dC dI ρ X p s m args c cc own nL) {pc : Nat} {xs st : List Value} {σ : Sg} (hd : decode cc pc = .ok (.laload, 1))
    (hk : ∀ n ys t τ, leS σ τ → k n ys t τ = some r → Gl bs ra cA dC dI p l e R s m args below meth c nL Q c0 s0 n ys t τ)
    (h : zp2 st (fun v w t => zref v fun q => zint w fun i => zarr zC zN σ q 21 i fun j => k (pc + 1) xs (.long (σ.2.2.2.2 q j) :: t) σ) = some r) : Gl bs ra cA dC dI p l e R s m args below meth c nL Q c0 s0 pc xs st σ := by
  obtain ⟨hx, hb, hml, hown, hts, hK, hST, hbs⟩ := F
  intro ls H locs cells slots hnc hl hP hS hc hs
  replace h := zp2_i h
  obtain ⟨v, w, t, rfl, h⟩ := h
  replace h := zref_i h
  obtain ⟨q, rfl, h⟩ := h
  replace h := zint_i h
  obtain ⟨i, rfl, h⟩ := h
  replace h := zarr_i h
  obtain ⟨hq, hqc, hin, h⟩ := h
  have hq2 : q < NC := Nat.lt_of_lt_of_le hq hnc
  have hgo := hk _ _ _ _ (leS.rf σ) h ls H locs cells slots hnc hl hP hS hc hs
  show W p l e R s m args below meth c H locs cells slots Q (F0 m pc ls (.int i :: .ref (trN bs ra q) :: t.map (trV bs ra)))
  rw [trN_lt (nc1000 hq2)]
  exact va_lald (D := (dC, dI)) hx hb hK hP q 1 (cA := cA 21) (n := zN q) (f := σ.2.2.2.2 q) (wc21 hq hqc) rfl hin hd hgo
theorem snd_bal (F : Fr bs ra cA dC dI ρ X p s m args c cc own nL) {pc : Nat} {xs st : List Value} {σ : Sg} (hd : decode cc pc = .ok (.baload, 1))
    (hk : ∀ n ys t τ, leS σ τ → k n ys t τ = some r → Gl bs ra cA dC dI p l e R s m args below meth c nL Q c0 s0 n ys t τ)
    (h : zp2 st (fun v w t => zref v fun q => zint w fun i => zarr zC zN σ q 22 i fun j => k (pc + 1) xs (.int (σ.2.2.2.1 q j) :: t) σ) = some r) : Gl bs ra cA dC dI p l e R s m args below meth c nL Q c0 s0 pc xs st σ := by
  obtain ⟨hx, hb, hml, hown, hts, hK, hST, hbs⟩ := F
  intro ls H locs cells slots hnc hl hP hS hc hs
  replace h := zp2_i h
  obtain ⟨v, w, t, rfl, h⟩ := h
  replace h := zref_i h
  obtain ⟨q, rfl, h⟩ := h
  replace h := zint_i h
  obtain ⟨i, rfl, h⟩ := h
  replace h := zarr_i h
  obtain ⟨hq, hqc, hin, h⟩ := h
  have hq2 : q < NC := Nat.lt_of_lt_of_le hq hnc
  have hgo := hk _ _ _ _ (leS.rf σ) h ls H locs cells slots hnc hl hP hS hc hs
  show W p l e R s m args below meth c H locs cells slots Q (F0 m pc ls (.int i :: .ref (trN bs ra q) :: t.map (trV bs ra)))
  rw [trN_lt (nc1000 hq2)]
  exact va_bald (D := (dC, dI)) hx hb hK hP q 2 (cA := cA 22) (n := zN q) (f := σ.2.2.2.1 q) (wc22 hq hqc) rfl hin hd hgo
theorem snd_aal23 (F : Fr bs ra cA dC dI ρ X p s m args c cc own nL) {pc : Nat} {xs st : List Value} {σ : Sg} (hd : decode cc pc = .ok (.aaload, 1))
    (hk : ∀ n ys t τ, leS σ τ → k n ys t τ = some r → Gl bs ra cA dC dI p l e R s m args below meth c nL Q c0 s0 n ys t τ)
    (h : zp2 st (fun v w t => zref v fun q => zint w fun i => zarr zC zN σ q 23 i fun j => k (pc + 1) xs (zr (σ.2.1 q j) :: t) σ) = some r) : Gl bs ra cA dC dI p l e R s m args below meth c nL Q c0 s0 pc xs st σ := by
  obtain ⟨hx, hb, hml, hown, hts, hK, hST, hbs⟩ := F
  intro ls H locs cells slots hnc hl hP hS hc hs
  replace h := zp2_i h
  obtain ⟨v, w, t, rfl, h⟩ := h
  replace h := zref_i h
  obtain ⟨q, rfl, h⟩ := h
  replace h := zint_i h
  obtain ⟨i, rfl, h⟩ := h
  replace h := zarr_i h
  obtain ⟨hq, hqc, hin, h⟩ := h
  have hq2 : q < NC := Nat.lt_of_lt_of_le hq hnc
  have hgo := hk _ _ _ _ (leS.rf σ) h ls H locs cells slots hnc hl hP hS hc hs
  rw [List.map_cons, trV_zr] at hgo
  show W p l e R s m args below meth c H locs cells slots Q (F0 m pc ls (.int i :: .ref (trN bs ra q) :: t.map (trV bs ra)))
  rw [trN_lt (nc1000 hq2)]
  exact alq hx hb hK hP q 3 (cA := cA 23) (ty := .array .int) (n := zN q) (f := fun j => (σ.2.1 q j).map (trN bs ra)) rfl (wc23 hq hqc) rfl hin hd hgo
theorem snd_aal24 (F : Fr bs ra cA dC dI ρ X p s m args c cc own nL) {pc : Nat} {xs st : List Value} {σ : Sg} (hd : decode cc pc = .ok (.aaload, 1))
    (hk : ∀ n ys t τ, leS σ τ → k n ys t τ = some r → Gl bs ra cA dC dI p l e R s m args below meth c nL Q c0 s0 n ys t τ)
    (h : zp2 st (fun v w t => zref v fun q => zint w fun i => zarr zC zN σ q 24 i fun j => k (pc + 1) xs (zr (σ.2.1 q j) :: t) σ) = some r) : Gl bs ra cA dC dI p l e R s m args below meth c nL Q c0 s0 pc xs st σ := by
  obtain ⟨hx, hb, hml, hown, hts, hK, hST, hbs⟩ := F
  intro ls H locs cells slots hnc hl hP hS hc hs
  replace h := zp2_i h
  obtain ⟨v, w, t, rfl, h⟩ := h
  replace h := zref_i h
  obtain ⟨q, rfl, h⟩ := h
  replace h := zint_i h
  obtain ⟨i, rfl, h⟩ := h
  replace h := zarr_i h
  obtain ⟨hq, hqc, hin, h⟩ := h
  have hq2 : q < NC := Nat.lt_of_lt_of_le hq hnc
  have hgo := hk _ _ _ _ (leS.rf σ) h ls H locs cells slots hnc hl hP hS hc hs
  rw [List.map_cons, trV_zr] at hgo
  show W p l e R s m args below meth c H locs cells slots Q (F0 m pc ls (.int i :: .ref (trN bs ra q) :: t.map (trV bs ra)))
  rw [trN_lt (nc1000 hq2)]
  exact alq hx hb hK hP q 4 (cA := cA 24) (ty := .object "LateBinder$Bench") (n := zN q) (f := fun j => (σ.2.1 q j).map (trN bs ra)) rfl (wc24 hq hqc) rfl hin hd hgo
theorem snd_aal25 (F : Fr bs ra cA dC dI ρ X p s m args c cc own nL) {pc : Nat} {xs st : List Value} {σ : Sg} (hd : decode cc pc = .ok (.aaload, 1))
    (hk : ∀ n ys t τ, leS σ τ → k n ys t τ = some r → Gl bs ra cA dC dI p l e R s m args below meth c nL Q c0 s0 n ys t τ)
    (h : zp2 st (fun v w t => zref v fun q => zint w fun i => zarr zC zN σ q 25 i fun j => k (pc + 1) xs (zr (σ.2.2.1 q j) :: t) σ) = some r) : Gl bs ra cA dC dI p l e R s m args below meth c nL Q c0 s0 pc xs st σ := by
  obtain ⟨hx, hb, hml, hown, hts, hK, hST, hbs⟩ := F
  intro ls H locs cells slots hnc hl hP hS hc hs
  replace h := zp2_i h
  obtain ⟨v, w, t, rfl, h⟩ := h
  replace h := zref_i h
  obtain ⟨q, rfl, h⟩ := h
  replace h := zint_i h
  obtain ⟨i, rfl, h⟩ := h
  replace h := zarr_i h
  obtain ⟨hq, hqc, hin, h⟩ := h
  have hq2 : q < NC := Nat.lt_of_lt_of_le hq hnc
  have hgo := hk _ _ _ _ (leS.rf σ) h ls H locs cells slots hnc hl hP hS hc hs
  rw [List.map_cons, trV_zr] at hgo
  show W p l e R s m args below meth c H locs cells slots Q (F0 m pc ls (.int i :: .ref (trN bs ra q) :: t.map (trV bs ra)))
  rw [trN_lt (nc1000 hq2)]
  exact alq hx hb hK hP q 5 (cA := cA 25) (ty := .object "LateBinder$Key") (n := zN q) (f := fun j => (σ.2.2.1 q j).map (trN bs ra)) rfl (wc25 hq hqc) rfl hin hd hgo
theorem snd_ias (F : Fr bs ra cA dC dI ρ X p s m args c cc own nL) {pc : Nat} {xs st : List Value} {σ : Sg} (hd : decode cc pc = .ok (.iastore, 1))
    (hk : ∀ n ys t τ, leS σ τ → k n ys t τ = some r → Gl bs ra cA dC dI p l e R s m args below meth c nL Q c0 s0 n ys t τ)
    (h : zp3 st (fun u v w t => zref u fun q => zint v fun i => zint w fun x => zarr zC zN σ q 20 i fun j => k (pc + 1) xs t (σ.1, σ.2.1, σ.2.2.1, z2 σ.2.2.2.1 q j x, σ.2.2.2.2)) = some r) : Gl bs ra cA dC dI p l e R s m args below meth c nL Q c0 s0 pc xs st σ := by
  obtain ⟨hx, hb, hml, hown, hts, hK, hST, hbs⟩ := F
  intro ls H locs cells slots hnc hl hP hS hc hs
  replace h := zp3_i h
  obtain ⟨u, v, w, t, rfl, h⟩ := h
  replace h := zref_i h
  obtain ⟨q, rfl, h⟩ := h
  replace h := zint_i h
  obtain ⟨i, rfl, h⟩ := h
  replace h := zint_i h
  obtain ⟨x, rfl, h⟩ := h
  replace h := zarr_i h
  obtain ⟨hq, hqc, hin, h⟩ := h
  have hq2 : q < NC := Nat.lt_of_lt_of_le hq hnc
  show W p l e R s m args below meth c H locs cells slots Q (F0 m pc ls (.int x :: .int i :: .ref (trN bs ra q) :: t.map (trV bs ra)))
  rw [trN_lt (nc1000 hq2)]
  refine va_iast (D := (dC, dI)) hx hb hK hP wsO_D hS q 0 (cA := cA 20) (n := zN q) (f := σ.2.2.2.1 q) (wc20 hq hqc) rfl hin hd (fun H1 locs1 hP1 _ hS1 => ?_)
  refine hk _ _ _ _ (by exact leS.sm rfl) h ls H1 locs1 cells slots hnc hl ?_ hS1 hc hs
  refine arr_ws hP1 rfl (fun i hi => ⟨rfl, rfl, z2_ne hi, rfl⟩) ?_
  rw [cl20 hqc]
  dsimp only
  rw [z2_eq]
  rfl
theorem snd_bas (F : Fr bs ra cA dC dI ρ X p s m args c cc own nL) {pc : Nat} {xs st : List Value} {σ : Sg} (hd : decode cc pc = .ok (.bastore, 1))
    (hk : ∀ n ys t τ, leS σ τ → k n ys t τ = some r → Gl bs ra cA dC dI p l e R s m args below meth c nL Q c0 s0 n ys t τ)
    (h : zp3 st (fun u v w t => zref u fun q => zint v fun i => zint w fun x => zarr zC zN σ q 22 i fun j => k (pc + 1) xs t (σ.1, σ.2.1, σ.2.2.1, z2 σ.2.2.2.1 q j x.toInt8.toInt32, σ.2.2.2.2)) = some r) : Gl bs ra cA dC dI p l e R s m args below meth c nL Q c0 s0 pc xs st σ := by
  obtain ⟨hx, hb, hml, hown, hts, hK, hST, hbs⟩ := F
  intro ls H locs cells slots hnc hl hP hS hc hs
  replace h := zp3_i h
  obtain ⟨u, v, w, t, rfl, h⟩ := h
  replace h := zref_i h
  obtain ⟨q, rfl, h⟩ := h
  replace h := zint_i h
  obtain ⟨i, rfl, h⟩ := h
  replace h := zint_i h
  obtain ⟨x, rfl, h⟩ := h
  replace h := zarr_i h
  obtain ⟨hq, hqc, hin, h⟩ := h
  have hq2 : q < NC := Nat.lt_of_lt_of_le hq hnc
  show W p l e R s m args below meth c H locs cells slots Q (F0 m pc ls (.int x :: .int i :: .ref (trN bs ra q) :: t.map (trV bs ra)))
  rw [trN_lt (nc1000 hq2)]
  refine va_bast (D := (dC, dI)) hx hb hK hP wsO_D hS q 2 (cA := cA 22) (n := zN q) (f := σ.2.2.2.1 q) (wc22 hq hqc) rfl hin hd (fun H1 locs1 hP1 _ hS1 => ?_)
  refine hk _ _ _ _ (by exact leS.sm rfl) h ls H1 locs1 cells slots hnc hl ?_ hS1 hc hs
  refine arr_ws hP1 rfl (fun i hi => ⟨rfl, rfl, z2_ne hi, rfl⟩) ?_
  rw [cl22 hqc]
  dsimp only
  rw [z2_eq]
  rfl
theorem snd_las (F : Fr bs ra cA dC dI ρ X p s m args c cc own nL) {pc : Nat} {xs st : List Value} {σ : Sg} (hd : decode cc pc = .ok (.lastore, 1))
    (hk : ∀ n ys t τ, leS σ τ → k n ys t τ = some r → Gl bs ra cA dC dI p l e R s m args below meth c nL Q c0 s0 n ys t τ)
    (h : zp3 st (fun u v w t => zref u fun q => zint v fun i => zlon w fun x => zarr zC zN σ q 21 i fun j => k (pc + 1) xs t (σ.1, σ.2.1, σ.2.2.1, σ.2.2.2.1, z2 σ.2.2.2.2 q j x)) = some r) : Gl bs ra cA dC dI p l e R s m args below meth c nL Q c0 s0 pc xs st σ := by
  obtain ⟨hx, hb, hml, hown, hts, hK, hST, hbs⟩ := F
  intro ls H locs cells slots hnc hl hP hS hc hs
  replace h := zp3_i h
  obtain ⟨u, v, w, t, rfl, h⟩ := h
  replace h := zref_i h
  obtain ⟨q, rfl, h⟩ := h
  replace h := zint_i h
  obtain ⟨i, rfl, h⟩ := h
  replace h := zlon_i h
  obtain ⟨x, rfl, h⟩ := h
  replace h := zarr_i h
  obtain ⟨hq, hqc, hin, h⟩ := h
  have hq2 : q < NC := Nat.lt_of_lt_of_le hq hnc
  show W p l e R s m args below meth c H locs cells slots Q (F0 m pc ls (.long x :: .int i :: .ref (trN bs ra q) :: t.map (trV bs ra)))
  rw [trN_lt (nc1000 hq2)]
  refine va_last (D := (dC, dI)) hx hb hK hP wsO_D hS q 1 (cA := cA 21) (n := zN q) (f := σ.2.2.2.2 q) (wc21 hq hqc) rfl hin hd (fun H1 locs1 hP1 _ hS1 => ?_)
  refine hk _ _ _ _ (by exact leS.sm rfl) h ls H1 locs1 cells slots hnc hl ?_ hS1 hc hs
  refine arr_ws hP1 rfl (fun i hi => ⟨rfl, rfl, rfl, z2_ne hi⟩) ?_
  rw [cl21 hqc]
  dsimp only
  rw [z2_eq]
  rfl
end STEP
