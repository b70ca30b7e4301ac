-- PROBES, on the pure state and in the reference
def tRel1 (x : Nat) (T : TT) (z : Nat × Nat) : TT := tLog (if z.1 = 1 then u_ln T (va_up T.2.1.1.2 z.2 none) else if z.1 = 0 then u_pool T (T.2.2.1.1 + nI z.2) else u_gv T (va_up T.2.1.2.1 z.2 none)) (if z.1 = 1 then nI 6 else if z.1 = 0 then nI 7 else nI 8) (nI x) (nI z.2)
def tRels (x : Nat) (l : List (Nat × Nat)) (T : TT) : TT := l.foldl (tRel1 x) T
def tRelease (T : TT) (x : Nat) : TT := u_co (u_tk (tRels x (T.2.2.2.1 x).reverse T) (va_up (tRels x (T.2.2.2.1 x).reverse T).2.2.2.1 x [])) (va_up (tRels x (T.2.2.2.1 x).reverse T).2.1.1.1 x (nI 0))
theorem tRel1_tk (x : Nat) (T : TT) (f : Nat → List (Nat × Nat)) (z : Nat × Nat) : tRel1 x (u_tk T f) z = u_tk (tRel1 x T z) f := by
  unfold tRel1 tLog
  by_cases h : z.1 = 1
  · simp only [h, if_true]
  · by_cases h2 : z.1 = 0
    · simp only [h2, if_true]; rfl
    · simp only [h, h2, if_false]
theorem tRels_tk (x : Nat) (f : Nat → List (Nat × Nat)) : ∀ (l : List (Nat × Nat)) (T : TT), tRels x l (u_tk T f) = u_tk (tRels x l T) f
  | [], _ => rfl
  | z :: l, T => by
    show tRels x l (tRel1 x (u_tk T f) z) = u_tk (tRels x l (tRel1 x T z)) f
    rw [tRel1_tk, tRels_tk x f l]
theorem tRel1_f (x : Nat) (T : TT) (z : Nat × Nat) : (tRel1 x T z).2.2.2.1 = T.2.2.2.1 ∧ (tRel1 x T z).1.1.1.1 = T.1.1.1.1 ∧ (tRel1 x T z).1.1.1.2 = T.1.1.1.2 ∧ (tRel1 x T z).1.2.1.2 = T.1.2.1.2 ∧ (tRel1 x T z).1.2.2.1 = T.1.2.2.1 ∧ (tRel1 x T z).1.2.2.2 = T.1.2.2.2 ∧ (tRel1 x T z).2.1.1.1 = T.2.1.1.1 ∧ (tRel1 x T z).2.2.1.2 = T.2.2.1.2 ∧ (tRel1 x T z).2.2.2.2 = T.2.2.2.2 ∧ (tRel1 x T z).1.1.2.1 = T.1.1.2.1 ∧ (tRel1 x T z).1.1.2.2 = T.1.1.2.2 ∧ (tRel1 x T z).1.2.1.1 = T.1.2.1.1 := by
  unfold tRel1 tLog
  by_cases h : z.1 = 1
  · simp only [h, if_true, and_self]
  · by_cases h2 : z.1 = 0
    · simp only [h2, if_true]; exact ⟨rfl, rfl, rfl, rfl, rfl, rfl, rfl, rfl, rfl, rfl, rfl, rfl⟩
    · simp only [h, h2, if_false, and_self]
theorem tRels_f (x : Nat) : ∀ (l : List (Nat × Nat)) (T : TT), (tRels x l T).2.2.2.1 = T.2.2.2.1 ∧ (tRels x l T).1.1.1.1 = T.1.1.1.1 ∧ (tRels x l T).1.1.1.2 = T.1.1.1.2 ∧ (tRels x l T).1.2.1.2 = T.1.2.1.2 ∧ (tRels x l T).1.2.2.1 = T.1.2.2.1 ∧ (tRels x l T).1.2.2.2 = T.1.2.2.2 ∧ (tRels x l T).2.1.1.1 = T.2.1.1.1 ∧ (tRels x l T).2.2.1.2 = T.2.2.1.2 ∧ (tRels x l T).2.2.2.2 = T.2.2.2.2 ∧ (tRels x l T).1.1.2.1 = T.1.1.2.1 ∧ (tRels x l T).1.1.2.2 = T.1.1.2.2 ∧ (tRels x l T).1.2.1.1 = T.1.2.1.1
  | [], _ => ⟨rfl, rfl, rfl, rfl, rfl, rfl, rfl, rfl, rfl, rfl, rfl, rfl⟩
  | z :: l, T => by
    have h1 := tRels_f x l (tRel1 x T z)
    obtain ⟨g1, g2, g3, g4, g5, g6, g7, g8, g9, g10, g11, g12⟩ := tRel1_f x T z
    rw [g1, g2, g3, g4, g5, g6, g7, g8, g9, g10, g11, g12] at h1
    exact h1
def okz (z : Nat × Nat) : Prop := z.1 = 0 ∨ z.1 = 1 ∧ z.2 < 16 ∨ z.1 = 3 ∧ z.2 < 8
/-- what is so of the pure state between two steps -/
def TV (P : PT) (T : TT) : Prop := (∀ x, T.1.1.1.1 x ≤ 3) ∧ (T.1.2.1.2.Nodup ∧ ∀ y ∈ T.1.2.1.2, y < P.1.1) ∧ (T.1.2.2.1.Nodup ∧ ∀ y, y ∈ T.1.2.2.1 ↔ y < P.1.1 ∧ T.1.1.1.1 y = 3) ∧ (∀ j y, T.2.1.2.1 j = some y → y < P.1.1) ∧ (∀ j y, T.2.1.1.2 j = some y → y < P.1.1) ∧ (∀ x j, bt (T.1.2.2.2 x) j = true → j < 12) ∧ (∀ x j, bt (T.2.1.1.1 x) j = true → j < 12) ∧ (∀ x, ∀ z ∈ T.2.2.2.1 x, okz z) ∧ (∀ x, (T.2.2.2.1 x).length ≤ 6)
theorem TV.row {P : PT} {T : TT} (h : TV P T) (hV : PV P) : rwB T.1.2.1.2 := ⟨h.2.1.1, fun y hy => by have := h.2.1.2 y hy; have := hV.1; omega⟩
theorem TV.bnd {P : PT} {T : TT} (h : TV P T) (hV : PV P) : ∀ y ∈ T.1.2.2.1, y < 12 := fun y hy => by have := ((h.2.2.1.2 y).mp hy).1; have := hV.1; omega
theorem TV.ovB {P : PT} {T : TT} (h : TV P T) (hV : PV P) : ovB P T := fun a ha j hj => by
  unfold ov at hj
  rw [b_or, Bool.or_eq_true] at hj
  rcases hj with hj | hj
  · exact h.2.2.2.2.2.1 a j hj
  · cases e : P.2.1 a with
    | none =>
      rw [e] at hj
      have : bt (nI 0) j = false := b_0 j
      rw [show bt (pbit none) j = bt (nI 0) j from rfl, this] at hj
      cases hj
    | some k =>
      have := hV.2.2.2.1 a ha k e
      have := hV.1
      rw [e, show bt (pbit (some k)) j = bt (nI 1 <<< (nI k &&& 31)) j from rfl, b_bit (by omega), decide_eq_true_eq] at hj
      omega
section MPROBE
variable {ρ : Nat × (Nat → Int32)} {d : Nat} {c : Nat × Nat} {R : Nat → Nat → Option Nat} {I : Nat → Nat → Int32} {L : Nat → Nat → Int64} {P : PT} {sd : Nat} {T : TT}
/-- what the reference's methods leave as it is -/
def FM (I J : Nat → Nat → Int32) : Prop := ∀ q j, ¬ (q = 274 ∨ (q = 257 ∧ (j = 30 ∨ j = 31))) → J q j = I q j
/-- the same, the passes and those that are gone as well -/
def FX (I J : Nat → Nat → Int32) : Prop := ∀ q j, ¬ (q = 274 ∨ q = 276 ∨ q = 277 ∨ (q = 257 ∧ (j = 30 ∨ j = 31 ∨ j = 33))) → J q j = I q j
theorem FM.rf : FM I I := fun _ _ _ => rfl
theorem FM.tr {I J K : Nat → Nat → Int32} (h : FM I J) (h2 : FM J K) : FM I K := fun q j hq => (h2 q j hq).trans (h q j hq)
theorem FM.up {I J : Nat → Nat → Int32} (h : FM I J) (s : Nat → Int32) : FM I (va_up J 274 s) := fun q j hq => by
  rw [va_up_ne _ _ (fun e => hq (Or.inl e))]
  exact h q j hq
theorem FM.z2 {I J : Nat → Nat → Int32} (h : FM I J) {j : Nat} {v : Int32} (hj : j = 30 ∨ j = 31) : FM I (z2 J 257 j v) := fun q k hq => by
  rw [z2a, if_neg (by omega)]
  exact h q k hq
theorem FM.x {I J : Nat → Nat → Int32} (h : FM I J) : FX I J := fun q j hq => h q j (by omega)
theorem FX.rf : FX I I := fun _ _ _ => rfl
theorem FX.tr {I J K : Nat → Nat → Int32} (h : FX I J) (h2 : FX J K) : FX I K := fun q j hq => (h2 q j hq).trans (h q j hq)
theorem FX.up {I J : Nat → Nat → Int32} (h : FX I J) (s : Nat → Int32) : FX I (va_up J 274 s) := fun q j hq => by
  rw [va_up_ne _ _ (fun e => hq (Or.inl e))]
  exact h q j hq
theorem FX.z2 {I J : Nat → Nat → Int32} (h : FX I J) {q0 j : Nat} {v : Int32} (hj : q0 = 276 ∨ q0 = 277 ∨ (q0 = 257 ∧ (j = 30 ∨ j = 31 ∨ j = 33))) : FX I (z2 J q0 j v) := fun q k hq => by
  rw [z2a, if_neg (by omega)]
  exact h q k hq
theorem FX.PM {I J : Nat → Nat → Int32} (h : FX I J) (hP : PM P sd I) : PM P sd J := PM_to hP (fun q hq => by
  funext j
  refine h q j ?_
  have : ∀ q, q ∈ bdM → q ≠ 274 ∧ q ≠ 276 ∧ q ≠ 277 ∧ q ≠ 257 := by decide
  obtain ⟨h1, h2, h3, h4⟩ := this q hq
  rintro (e | e | e | ⟨e, -⟩)
  · exact h1 e
  · exact h2 e
  · exact h3 e
  · exact h4 e) (h 257 18 (by omega))
theorem nn1 {k : Nat} (h : k < 2 ^ 31) : (nI k = 0) ↔ k = 0 := by rw [show (0 : Int32) = nI 0 from rfl, nI_eq h (by decide)]
set_option maxHeartbeats 2000000 in
theorem M_releases_l {x : Nat} (hx : x < 12) : ∀ (n : Nat) (T : TT) (I : Nat → Nat → Int32), (T.2.2.2.1 x).length = n → (∀ z ∈ T.2.2.2.1 x, okz z) → (∀ y ∈ T.1.2.2.1, y < 12) → MR T (I 274) → ∃ s, EV ρ (d + 2) 47 0 [.ref 257, .int (nI x), zU, zU] [] (mk c R I L) = some ([], mk c R (va_up I 274 s) L) ∧ MR (tRelease T x) s := by
  intro n
  induction n with
  | zero =>
    intro T I hn hz hb hT
    obtain ⟨h1, h2, h3⟩ := hT.2.2.2.2.2.2 x hx
    have e : T.2.2.2.1 x = [] := List.length_eq_zero_iff.mp hn
    rw [bM_releases_0, nI_add, nI_add, zidx_n (by omega) (by decide), h2, hn, if_pos (by decide), zidx_n (by omega) (by decide), bM_releases_165]
    refine ⟨va_up (I 274) (96 + x) (nI 0), rfl, ?_⟩
    have h4 := MR_co hx (nI 0) hT hb
    have e2 : tRelease T x = u_co T (va_up T.2.1.1.1 x (nI 0)) := by
      unfold tRelease
      rw [e]
      show u_co (u_tk T (va_up T.2.2.2.1 x [])) _ = _
      have : va_up T.2.2.2.1 x [] = T.2.2.2.1 := by
        funext y
        unfold va_up
        split
        · subst y; exact e.symm
        · rfl
      rw [this]
      rfl
    rw [e2]
    exact h4
  | succ n ih =>
    intro T I hn hz hb hT
    obtain ⟨h1, h2, h3⟩ := hT.2.2.2.2.2.2 x hx
    obtain ⟨l, z, e⟩ : ∃ l z, T.2.2.2.1 x = l ++ [z] := by
      rcases List.eq_nil_or_concat (T.2.2.2.1 x) with e | ⟨l, z, e⟩
      · rw [e] at hn; cases hn
      · exact ⟨l, z, by rw [e, List.concat_eq_append]⟩
    have hln : l.length = n := by rw [e] at hn; simpa using hn
    have hzz : okz z := hz z (by rw [e]; simp)
    have hg := h3 n z (by rw [e, ← hln]; simp)
    rw [hn] at h1
    have hA : MR (u_tk T (va_up T.2.2.2.1 x l)) (va_up (I 274) (108 + x) (nI n)) := MR_tk hx hT hb (fun m g1 g2 => va_up_ne _ _ g1) ⟨by omega, by rw [va_up_self, hln], fun k w hk => by
      have hk2 := (List.getElem?_eq_some_iff.mp hk).1
      rw [va_up_ne _ _ (by omega), va_up_ne _ _ (by omega)]
      exact h3 k w (by rw [e, List.getElem?_append_left hk2]; exact hk)⟩
    have hz1 : z.1 < 2 ^ 31 := by rcases hzz with h | ⟨h, -⟩ | ⟨h, -⟩ <;> omega
    rw [bM_releases_0, nI_add, zidx_n (by omega) (by decide), h2, hn, if_neg (nI_nle (by omega) (by omega)), zidx_n (by omega) (by decide), zidx_n (by omega) (by decide), h2, hn, pk_sub (by omega), show n + 1 - 1 = n from rfl]
    have e0 : z2 I 274 (108 + x) (nI n) = va_up I 274 (va_up (I 274) (108 + x) (nI n)) := rfl
    rw [e0]
    generalize hs1 : va_up (I 274) (108 + x) (nI n) = s1 at hA ⊢
    have q1 : s1 (108 + x) = nI n := by rw [← hs1, va_up_self]
    have q2 : s1 (120 + 12 * x + 2 * n) = nI z.1 := by rw [← hs1, va_up_ne _ _ (by omega)]; exact hg.1
    have q3 : s1 (120 + 12 * x + 2 * n + 1) = nI z.2 := by rw [← hs1, va_up_ne _ _ (by omega)]; exact hg.2
    -- one is released
    have key : ∃ s2, EV ρ (d + 2) 47 25 [.ref 257, .int (nI x), zU, zU] [] (mk c R (va_up I 274 s1) L) = EV ρ (d + 2) 47 0 [.ref 257, .int (nI x), zU, zU] [] (mk c R (va_up I 274 s2) L) ∧ MR (tRel1 x (u_tk T (va_up T.2.2.2.1 x l)) z) s2 := by
      rw [bM_releases_25, nI_add, zidx_n (by omega) (by decide), va_s, q1, pk_mul, nI_add, pk_mul, nI_add, zidx_n (by omega) (by decide), zidx_n (by omega) (by decide), q1, pk_mul, nI_add, nI_add, zidx_n (by omega) (by decide), q2, q3]
      generalize hT1 : u_tk T (va_up T.2.2.2.1 x l) = T1 at hA
      have hb1 : ∀ y ∈ T1.1.2.2.1, y < 12 := by rw [← hT1]; exact hb
      rcases hzz with h | ⟨h, h6⟩ | ⟨h, h6⟩
      · -- of the pool
        rw [if_neg (by rw [nI_eq hz1 (by decide)]; omega), bM_releases_93, if_pos ((nn1 hz1).mpr h), bM_releases_109, if_neg (by rw [nI_eq hz1 (by decide)]; omega), bM_releases_125, if_neg (by rw [nI_eq hz1 (by decide)]; omega), if_pos ((nn1 hz1).mpr h), z2_u, va_s, hA.2.2.1.2.2.1]
        obtain ⟨s2, g1, g2⟩ := M_logs_e (ρ := ρ) (d := d) (c := c) (R := R) (I := va_up I 274 (va_up s1 439 (T1.2.2.1.1 + nI z.2))) (L := L) (T := u_pool T1 (T1.2.2.1.1 + nI z.2)) (by rw [va_s]; exact MR_pool _ hA hb1) hb1 (nI 7) (nI x) (nI z.2)
        rw [g1, zcv, bM_releases_152, bx_uu]
        refine ⟨s2, rfl, ?_⟩
        unfold tRel1
        rw [if_neg (by omega), if_pos h, if_neg (by omega), if_pos h]
        exact g2
      · rw [if_pos (by rw [h]), nI_add, zidx_n (by omega) (by decide), bM_releases_93, if_neg (by rw [nn1 hz1]; omega), bM_releases_109, if_neg (by rw [nI_eq hz1 (by decide)]; omega), bM_releases_125, if_pos (by rw [h]), z2_u]
        obtain ⟨s2, g1, g2⟩ := M_logs_e (ρ := ρ) (d := d) (c := c) (R := R) (I := va_up I 274 (va_up s1 (264 + z.2) (-1))) (L := L) (T := u_ln T1 (va_up T1.2.1.1.2 z.2 none)) (by rw [va_s]; exact MR_ln h6 none hA hb1) hb1 (nI 6) (nI x) (nI z.2)
        rw [g1, zcv, bM_releases_152, bx_uu]
        refine ⟨s2, rfl, ?_⟩
        unfold tRel1
        rw [if_pos h, if_pos h]
        exact g2
      · rw [if_neg (by rw [nI_eq hz1 (by decide)]; omega), bM_releases_93, if_neg (by rw [nn1 hz1]; omega), bM_releases_109, if_pos (by rw [h]), nI_add, zidx_n (by omega) (by decide), bM_releases_125, if_neg (by rw [nI_eq hz1 (by decide)]; omega), if_neg (by rw [nn1 hz1]; omega), z2_u]
        obtain ⟨s2, g1, g2⟩ := M_logs_e (ρ := ρ) (d := d) (c := c) (R := R) (I := va_up I 274 (va_up s1 (280 + z.2) (-1))) (L := L) (T := u_gv T1 (va_up T1.2.1.2.1 z.2 none)) (by rw [va_s]; exact MR_gv h6 none hA hb1) hb1 (nI 8) (nI x) (nI z.2)
        rw [g1, zcv, bM_releases_152, bx_uu]
        refine ⟨s2, rfl, ?_⟩
        unfold tRel1
        rw [if_neg (by omega), if_neg (by omega), if_neg (by omega), if_neg (by omega)]
        exact g2
    obtain ⟨s2, k1, k2⟩ := key
    rw [k1]
    obtain ⟨f1, f2, f3, f4, f5, -⟩ := tRel1_f x (u_tk T (va_up T.2.2.2.1 x l)) z
    have f1' : (tRel1 x (u_tk T (va_up T.2.2.2.1 x l)) z).2.2.2.1 = va_up T.2.2.2.1 x l := f1
    obtain ⟨s3, g1, g2⟩ := ih (tRel1 x (u_tk T (va_up T.2.2.2.1 x l)) z) (va_up I 274 s2) (by rw [f1', va_up_self]; exact hln) (by rw [f1', va_up_self]; exact fun w hw => hz w (by rw [e]; exact List.mem_append_left _ hw)) (by rw [f5]; exact hb) (by rw [va_s]; exact k2)
    rw [g1, bx_uu]
    refine ⟨s3, rfl, ?_⟩
    have e3 : tRelease (tRel1 x (u_tk T (va_up T.2.2.2.1 x l)) z) x = tRelease T x := by
      unfold tRelease
      rw [f1', va_up_self, e, List.reverse_append, List.reverse_singleton, List.singleton_append, tRel1_tk, tRels_tk]
      show u_co (u_tk (u_tk (tRels x l.reverse (tRel1 x T z)) (va_up T.2.2.2.1 x l)) (va_up (va_up T.2.2.2.1 x l) x [])) _ = u_co (u_tk (tRels x l.reverse (tRel1 x T z)) (va_up (tRels x l.reverse (tRel1 x T z)).2.2.2.1 x [])) _
      rw [(tRels_f x l.reverse (tRel1 x T z)).1, (tRel1_f x T z).1, bx_uu]
      rfl
    rw [← e3]
    exact g2
theorem M_releases_e {x : Nat} (hx : x < 12) (hz : ∀ z ∈ T.2.2.2.1 x, okz z) (hb : ∀ y ∈ T.1.2.2.1, y < 12) (hT : MR T (I 274)) : ∃ s, EV ρ (d + 2) 47 0 [.ref 257, .int (nI x), zU, zU] [] (mk c R I L) = some ([], mk c R (va_up I 274 s) L) ∧ MR (tRelease T x) s := M_releases_l hx _ T I rfl hz hb hT
end MPROBE
