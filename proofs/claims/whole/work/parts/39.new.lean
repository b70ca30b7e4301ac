section NEW
variable {bs : Nat} {ra : Nat → Nat} {cA : Nat → ClassId} {dC : Nat → ClassId} {dI : Nat → Nat → Nat} {ρ : Nat × (Nat → Int32)} {X : State → Heap → Prop}
variable {p : Program} {l : Launch} {e : Env} {R : Room} {s : State} {m : MethodId} {args : Array Value} {below : List Frame} {meth : Method} {c : Code} {cc : ByteArray} {own : String} {nL : Nat} {Q : State → Prop} {c0 s0 : Nat} {k : Kn} {r : List Value × Sg}
/-- a new cell's world -/
def nwS (σ : Sg) (n : Nat) : Sg := ((σ.1.1 + 1, σ.1.2.1, σ.1.2.2 + n), va_up σ.2.1 σ.1.1 (fun _ => none), va_up σ.2.2.1 σ.1.1 (fun _ => none), va_up σ.2.2.2.1 σ.1.1 (fun _ => 0), va_up σ.2.2.2.2 σ.1.1 (fun _ => 0))
theorem nwS_ne {σ : Sg} {n j : Nat} (h : j ≠ σ.1.1) : sam σ (nwS σ n) j := ⟨if_neg h, if_neg h, if_neg h, if_neg h⟩
theorem nwS_eq {σ : Sg} {n : Nat} : (nwS σ n).2.1 σ.1.1 = (fun _ => none) ∧ (nwS σ n).2.2.1 σ.1.1 = (fun _ => none) ∧ (nwS σ n).2.2.2.1 σ.1.1 = (fun _ => 0) ∧ (nwS σ n).2.2.2.2 σ.1.1 = (fun _ => 0) := ⟨if_pos rfl, if_pos rfl, if_pos rfl, if_pos rfl⟩
theorem nwS_ws {σ : Sg} {n : Nat} : wsO bs ra cA (nwS σ n) = wsO bs ra cA σ ++ [(bs + σ.1.1, cel bs ra cA (nwS σ n) σ.1.1)] := by
  unfold wsO
  show (List.range (σ.1.1 + 1)).map _ = _
  rw [List.range_succ, List.map_append]
  congr 1
  apply List.map_congr_left
  intro j hj
  rw [sam_cel (nwS_ne (Nat.ne_of_lt (List.mem_range.mp hj)))]
theorem nwS_at {σ : Sg} {q : Nat} {E : va_E} {H1 : Heap} (hP : va_P (dC, dI) clz (wsO bs ra cA σ ++ [(q, E)]) H1) (hD : va_D (zA bs) (wsO bs ra cA σ ++ [(q, E)])) (hz : H1.size ≤ bs + σ.1.1 + 1) : q = bs + σ.1.1 := by
  have hlen : (wsO bs ra cA σ).length = σ.1.1 := by simp [wsO]
  have hl : (wsO bs ra cA σ ++ [(q, E)])[σ.1.1]? = some (q, E) := by rw [List.getElem?_append_right (by omega), hlen, Nat.sub_self]; rfl
  have h1 : q < H1.size := (hP _ _ hl).lt
  have h2 : bs ≤ q := hD.2 _ _ hl
  rcases Nat.lt_or_ge q (bs + σ.1.1) with h3 | h3
  · have h4 : q - bs < σ.1.1 := by omega
    have h5 : (wsO bs ra cA σ ++ [(q, E)])[q - bs]? = some (bs + (q - bs), cel bs ra cA σ (q - bs)) := by rw [List.getElem?_append_left (by omega)]; exact wsO_get h4
    have h6 := hD.1 _ _ _ _ h5 hl (by show bs + (q - bs) = q; omega)
    omega
  · omega
theorem zC_big : ∀ q, NC ≤ q → zC q = 99 := by
  intro q hq
  have h : ∀ n, n ≤ 281 → Nat.blt q n = false := fun n hn => by
    rw [Bool.eq_false_iff]
    intro z
    have := Nat.blt_eq.mp z
    have : NC = 281 := rfl
    omega
  unfold zC
  simp only [h, Nat.reduceLeDiff, cond_false]
theorem nc_of {q c : Nat} (h : zC q = c) (hc : c < 99) : q < NC := by
  rcases Nat.lt_or_ge q NC with h1 | h1
  · exact h1
  · rw [zC_big q h1] at h
    omega
/-- what a new cell's continuation wants -/
theorem new_go {pc : Nat} {xs st : List Value} {σ : Sg} {n : Nat} (hR : r.2.1.1 + r.2.1.2.1 ≤ R.cells + c0 ∧ r.2.1.2.2 ≤ R.slots + s0) (hsz : s.heap.size ≤ bs + c0) (hx0 : σ.1.2.1 = 0)
    (hk1 : ∀ n ys t τ, k n ys t τ = some r → leS τ r.2) (hk : ∀ n ys t τ, leS σ τ → k n ys t τ = some r → Gl bs ra cA dC dI p l e R s m args below meth c nL Q c0 s0 n ys t τ)
    {ls : Array Slot} {locs : List Loc} {cells slots : Nat} (hnc : σ.1.1 < NC) (hl : lcO bs ra nL xs ls) (hc : cells + c0 = σ.1.1 + σ.1.2.1) (hs : slots + s0 = σ.1.2.2)
    (h : k pc xs (.ref σ.1.1 :: st) (nwS σ n) = some r) : (cells + 1 ≤ R.cells ∧ slots + n ≤ R.slots) ∧
      ∀ (q : Nat) (E : va_E) (H1 : Heap), va_P (dC, dI) clz (wsO bs ra cA σ ++ [(q, E)]) H1 → va_D (zA bs) (wsO bs ra cA σ ++ [(q, E)]) → va_S (zA bs) s.heap H1 locs → E = cel bs ra cA (nwS σ n) σ.1.1 → W p l e R s m args below meth c H1 locs (cells + 1) (slots + n) Q (F0 m pc ls (.ref q :: st.map (trV bs ra))) := by
  have h1 := hk1 _ _ _ _ h
  have h2 : σ.1.1 + 1 + σ.1.2.1 ≤ r.2.1.1 + r.2.1.2.1 := h1.1
  have h3 : σ.1.2.2 + n ≤ r.2.1.2.2 := h1.2.1
  refine ⟨⟨by omega, by omega⟩, fun q E H1 hP1 hD1 hS1 hE => W_size fun hz => ?_⟩
  have hq : q = bs + σ.1.1 := nwS_at hP1 hD1 (by omega)
  subst hq
  subst hE
  rw [← nwS_ws] at hP1
  have hgo := hk _ _ _ _ ⟨by show σ.1.1 + σ.1.2.1 ≤ σ.1.1 + 1 + σ.1.2.1; omega, Nat.le_add_right _ _, fun _ => by show σ.1.1 + 1 ≤ NC; omega⟩ h ls H1 locs (cells + 1) (slots + n) (by show σ.1.1 + 1 ≤ NC; omega) hl hP1 hS1 (by show _ = σ.1.1 + 1 + σ.1.2.1; omega) (by show _ = σ.1.2.2 + n; omega)
  rw [List.map_cons, show trV bs ra (.ref σ.1.1) = .ref (bs + σ.1.1) by show Value.ref (trN bs ra σ.1.1) = _; rw [trN_lt (nc1000 hnc)]] at hgo
  exact hgo
theorem snd_new (F : Fr bs ra cA dC dI ρ X p s m args c cc own nL) {pc x ci n : Nat} {q : vw_C} {xs st : List Value} {σ : Sg} (hd : decode cc pc = .ok (.new x, 3)) (hq : clz[ci]? = some q) (hqn : q.2.2 = n) (hw1 : Cond.classLink own x q.1 ∈ lw_tbl) (hw2 : Cond.instantiable q.1 q.2.2 ∈ lw_tbl) (hw3 : Cond.initialized q.1 ∈ lw_tbl)
    (hR : r.2.1.1 + r.2.1.2.1 ≤ R.cells + c0 ∧ r.2.1.2.2 ≤ R.slots + s0) (hsz : s.heap.size ≤ bs + c0)
    (hk1 : ∀ n ys t τ, k n ys t τ = some r → leS τ r.2) (hk : ∀ n ys t τ, leS σ τ → k n ys t τ = some r → Gl bs ra cA dC dI p l e R s m args below meth c nL Q c0 s0 n ys t τ)
    (h : znew zC zN σ ci n (fun q τ => k (pc + 3) xs (.ref q :: st) τ) = some r) : Gl bs ra cA dC dI p l e R s m args below meth c nL Q c0 s0 pc xs st σ := by
  obtain ⟨hx, hb, hml, hown, hts, hK, hST, hbs⟩ := F
  intro ls H locs cells slots hnc0 hl hP hS hc hs
  replace h := znew_i h
  obtain ⟨hx0, hzc, hzn, -, h⟩ := h
  obtain ⟨C, T, N⟩ := q
  have hqn : N = n := hqn
  subst hqn
  have hc9 : ci < 9 := by simpa using (List.getElem?_eq_some_iff.mp hq).1
  obtain ⟨⟨hr1, hr2⟩, fin⟩ := new_go (st := st) hR hsz hx0 hk1 hk (nc_of hzc (by omega)) hl hc hs h
  refine va_new (D := (dC, dI)) (ci := ci) (C := C) (T := T) (N := N) (fs := (List.range N).map (fv bs ra ci (nwS σ N) σ.1.1)) hx hb hts (gd_lays ci _ hq) (TY ci) (clz_ty ci _ hq) hown (hts _ (gd_in hw1 rfl)) (hts _ (gd_in hw2 rfl)) (hts _ (gd_in hw3 rfl)) hK hP wsO_D hS (fun q h => Nat.le_trans hbs h) hq (fun j hj => ?_) hr1 hr2 hd (fun q H1 hP1 hD1 hS1 => ?_)
  · have hfk := fkb_ok ci _ hq j hj
    unfold vp_V
    rw [List.getD_eq_getElem?_getD, fs_get hj, Option.getD_some]
    unfold fv
    obtain ⟨e1, e2, e3, e4⟩ := nwS_eq (σ := σ) (n := N)
    rw [e1, e2, e3, e4]
    unfold fkb at hfk
    split at hfk
    · rw [of_decide_eq_true hfk]; rename_i z; rw [z]; rfl
    · rw [of_decide_eq_true hfk]; rename_i z; rw [z]; rfl
    · rename_i z; rw [z]; cases hty : TY ci j <;> rw [hty] at hfk <;> first | rfl | cases hfk
    · rename_i z; rw [z]; cases hty : TY ci j <;> rw [hty] at hfk <;> first | rfl | cases hfk
    · rw [of_decide_eq_true hfk]; rename_i z; rw [z]; rfl
    · cases hfk
  · exact fin q _ H1 hP1 hD1 hS1 (by rw [cel_obj hzc (by omega), hzn])
/-- an array's class is the one that the world knows -/
theorem cls_eq {tys : List (ClassId × FieldType)} {a b : ClassId} {ty : FieldType} (hty : ∀ C, ty ≠ .object C) (hK : va_K (dC, dI) clz tys s) {i j : Nat} (hi : tys[i]? = some (a, ty)) (hj : tys[j]? = some (b, ty)) : a = b := by
  have h1 := (hK.2 i _ hi).2
  have h2 := (hK.2 j _ hj).2
  cases ty <;> first | exact absurd rfl (hty _) | exact Option.some.inj (h1.symm.trans h2)
theorem cls_eqo {tys : List (ClassId × FieldType)} {a b : ClassId} {C : String} (hK : va_K (dC, dI) clz tys s) {i j : Nat} (hi : tys[i]? = some (a, .object C)) (hj : tys[j]? = some (b, .object C)) : a = b := by
  obtain ⟨_, _, -, -, -, h1⟩ := (hK.2 i _ hi).2
  obtain ⟨_, _, -, -, -, h2⟩ := (hK.2 j _ hj).2
  exact Option.some.inj (h1.symm.trans h2)
set_option maxHeartbeats 2000000 in
theorem snd_newa (F : Fr bs ra cA dC dI ρ X p s m args c cc own nL) {pc ci i : Nat} {at' : ArrayType} {ty : FieldType} {a0 : Nat → vp_A} {xs st : List Value} {σ : Sg} (hd : decode cc pc = .ok (.newarray at', 2)) (hty : newarray.typeOf at' = ty) (hw : Cond.arrayClass ty ∈ lw_tbl) (hti : (tyz cA)[i]? = some (cA ci, ty)) (hto : ∀ C, ty ≠ .object C) (hcb : componentBytes ty ≤ 8)
    (ha : ∀ (n : Nat) (cX : ClassId), vp_cell cX (a0 n) = arrV cX n (fun _ => defaultValue ty)) (hcel : ∀ n, zC σ.1.1 = ci → zN σ.1.1 = n → cel bs ra cA (nwS σ n) σ.1.1 = .inl (cA ci, a0 n)) (hci : ci < 99)
    (hR : r.2.1.1 + r.2.1.2.1 ≤ R.cells + c0 ∧ r.2.1.2.2 ≤ R.slots + s0) (hsz : s.heap.size ≤ bs + c0) (hRs : r.2.1.2.2 ≤ 60000000)
    (hk1 : ∀ n ys t τ, k n ys t τ = some r → leS τ r.2) (hk : ∀ n ys t τ, leS σ τ → k n ys t τ = some r → Gl bs ra cA dC dI p l e R s m args below meth c nL Q c0 s0 n ys t τ)
    (h : zi1 st (fun x t => if 0 ≤ x then znew zC zN σ ci x.toNatClampNeg (fun q τ => k (pc + 2) xs (.ref q :: t) τ) else none) = some r) : Gl bs ra cA dC dI p l e R s m args below meth c nL Q c0 s0 pc xs st σ := by
  obtain ⟨hx, hb, hml, hown, hts, hK, hST, hbs⟩ := F
  intro ls H locs cells slots hnc0 hl hP hS hc hs
  replace h := zi1_i h
  obtain ⟨x, t, rfl, h⟩ := h
  replace h := ite_i h
  obtain ⟨hx1, h⟩ := h
  replace h := znew_i h
  obtain ⟨hx0, hzc, hzn, -, h⟩ := h
  obtain ⟨⟨hr1, hr2⟩, fin⟩ := new_go (st := t) hR hsz hx0 hk1 hk (nc_of hzc hci) hl hc hs h
  have hbyt : x.toNatClampNeg * componentBytes ty ≤ 536870912 := by
    have h3 : σ.1.2.2 + x.toNatClampNeg ≤ r.2.1.2.2 := (hk1 _ _ _ _ h).2.1
    have h1 : x.toNatClampNeg ≤ 60000000 := by omega
    exact Nat.le_trans (Nat.mul_le_mul h1 hcb) (by decide)
  refine va_newa (D := (dC, dI)) (a0 := a0 x.toNatClampNeg) hx hb (by rw [hty]; exact hts _ (gd_in hw rfl)) hty hK hP wsO_D hS (fun q h => Nat.le_trans hbs h) (ha _) (Int32.not_lt.mpr hx1) rfl hbyt hr1 hr2 hd (fun q cX H1 hK1 hP1 hD1 hS1 => ?_)
  have e : cX = cA ci := by
    refine cls_eq hto hK1 (i := (tyz cA).length) (j := i) (by rw [List.getElem?_append_right (Nat.le_refl _), Nat.sub_self]; rfl) ?_
    rw [List.getElem?_append_left (List.getElem?_eq_some_iff.mp hti).1]
    exact hti
  subst e
  exact fin q _ H1 hP1 hD1 hS1 (hcel _ hzc hzn).symm
end NEW
