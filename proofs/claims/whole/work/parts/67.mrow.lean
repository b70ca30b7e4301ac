-- THE REFERENCE'S ROW, WHAT IT TAKES AND RELEASES
section MROW
variable {ρ : Nat × (Nat → Int32)} {d : Nat} {c : Nat × Nat} {R : Nat → Nat → Option Nat} {I : Nat → Nat → Int32} {L : Nat → Nat → Int64} {P : PT} {sd : Nat} {T : TT}
theorem MR_row {s t : Nat → Int32} {l : List Nat} (h : MR T s) (hb : ∀ y ∈ T.1.2.2.1, y < 12) (hf : ∀ m, ¬ (72 ≤ m ∧ m < 84) → m ≠ 438 → t m = s m) (hl : RowM t l) : MR (u_row T l) t := by
  obtain ⟨h1, h2, ⟨h3, h4, h5, h6⟩, h7, h8, h9, h10⟩ := h
  refine ⟨fun y hy => ?_, fun y hy => ?_, ⟨fun j hj => ?_, fun j hj => ?_, ?_, ?_⟩, hl, LogM_to h8 (fun k g1 g2 => hf k (by omega) (by omega)) (hf _ (by omega) (by omega)), StM_72 hb h9 (fun k g1 g2 => hf k (by omega) (by omega)) (hf _ (by omega) (by omega)), fun y hy => TkM_to (h10 y hy) hy (fun k g1 g2 => hf k (by omega) (by omega))⟩
  · rw [hf _ (by omega) (by omega), hf _ (by omega) (by omega)]; exact h1 y hy
  · rw [hf _ (by omega) (by omega), hf _ (by omega) (by omega), hf _ (by omega) (by omega), hf _ (by omega) (by omega), hf _ (by omega) (by omega)]; exact h2 y hy
  · rw [hf _ (by omega) (by omega)]; exact h3 j hj
  · rw [hf _ (by omega) (by omega)]; exact h4 j hj
  · rw [hf _ (by omega) (by omega)]; exact h5
  · rw [hf _ (by omega) (by omega)]; exact h6
theorem MR_tk {s t : Nat → Int32} {x : Nat} (hx : x < 12) {l : List (Nat × Nat)} (h : MR T s) (hb : ∀ y ∈ T.1.2.2.1, y < 12) (hf : ∀ m, m ≠ 108 + x → ¬ (120 + 12 * x ≤ m ∧ m < 132 + 12 * x) → t m = s m) (hl : TkM t x l) : MR (u_tk T (va_up T.2.2.2.1 x l)) t := by
  obtain ⟨h1, h2, ⟨h3, h4, h5, h6⟩, h7, h8, h9, h10⟩ := h
  refine ⟨fun y hy => ?_, fun y hy => ?_, ⟨fun j hj => ?_, fun j hj => ?_, ?_, ?_⟩, RowM_to h7 (fun k g1 g2 => hf k (by omega) (by omega)) (hf _ (by omega) (by omega)), LogM_to h8 (fun k g1 g2 => hf k (by omega) (by omega)) (hf _ (by omega) (by omega)), StM_72 hb h9 (fun k g1 g2 => hf k (by omega) (by omega)) (hf _ (by omega) (by omega)), fun y hy => ?_⟩
  · rw [hf _ (by omega) (by omega), hf _ (by omega) (by omega)]; exact h1 y hy
  · rw [hf _ (by omega) (by omega), hf _ (by omega) (by omega), hf _ (by omega) (by omega), hf _ (by omega) (by omega), hf _ (by omega) (by omega)]; exact h2 y hy
  · rw [hf _ (by omega) (by omega)]; exact h3 j hj
  · rw [hf _ (by omega) (by omega)]; exact h4 j hj
  · rw [hf _ (by omega) (by omega)]; exact h5
  · rw [hf _ (by omega) (by omega)]; exact h6
  · show TkM t y (va_up T.2.2.2.1 x l y)
    by_cases e : y = x
    · subst e; rw [va_up_self]; exact hl
    · rw [va_up_ne _ _ e]
      obtain ⟨g1, g2, g3⟩ := h10 y hy
      refine ⟨g1, by rw [hf _ (by omega) (by omega)]; exact g2, fun k z hk => ?_⟩
      have := (List.getElem?_eq_some_iff.mp hk).1
      rw [hf _ (by omega) (by omega), hf _ (by omega) (by omega)]
      exact g3 k z hk
theorem M_inRow_l {l : List Nat} (h : RowM (I 274) l) (hs : ∀ x ∈ l, x < 2 ^ 31) {v : Nat} (hv : v < 2 ^ 31) : ∀ (n i : Nat), i + n = l.length → (∀ j, j < i → l[j]? ≠ some v) → EV ρ (d + 1) 52 2 [.ref 257, .int (nI v), .int (nI i)] [] (mk c R I L) = some ([.int (eO (l.idxOf? v))], mk c R I L) := by
  have hl := h.2.1
  intro n
  induction n with
  | zero =>
    intro i hi hn
    have e : l.idxOf? v = none := by
      rw [List.idxOf?_eq_none_iff]
      intro hm
      obtain ⟨j, hj, e⟩ := List.getElem_of_mem hm
      exact hn j (by omega) (by rw [List.getElem?_eq_getElem hj, e])
    rw [bM_inRow_2, h.1, if_pos (nI_le (by omega) (by omega)), e]; rfl
  | succ n ih =>
    intro i hi hn
    have hi2 : i < l.length := by omega
    have hx := h.2.2 i _ (List.getElem?_eq_getElem hi2)
    rw [bM_inRow_2, h.1, if_neg (nI_ge hi2 (by omega)), nI_add 72 i, zidx_n (by omega) (by decide), hx, nI_add]
    by_cases e : l[i] = v
    · rw [if_pos (by rw [e])]
      have e2 : l.idxOf? v = some i := by
        rw [List.idxOf?, List.findIdx?_eq_some_iff_getElem]
        refine ⟨hi2, by simp [e], fun j hj => ?_⟩
        have := hn j hj
        rw [List.getElem?_eq_getElem (by omega)] at this
        simpa using this
      rw [e2]; rfl
    · rw [if_neg (by rw [nI_eq (hs _ (List.getElem_mem hi2)) hv]; exact e)]
      refine ih (i + 1) (by omega) (fun j hj => ?_)
      by_cases e3 : j = i
      · subst e3
        rw [List.getElem?_eq_getElem hi2]
        simpa using e
      · exact hn j (by omega)
theorem M_inRow_e {l : List Nat} (h : RowM (I 274) l) (hs : ∀ x ∈ l, x < 2 ^ 31) {v : Nat} (hv : v < 2 ^ 31) : EV ρ (d + 1) 52 0 [.ref 257, .int (nI v), zU] [] (mk c R I L) = some ([.int (eO (l.idxOf? v))], mk c R I L) := by
  rw [bM_inRow_0]
  exact M_inRow_l h hs hv l.length 0 (by omega) (fun j hj => by omega)
theorem er_fl {v : Nat} : ∀ {l : List Nat} {k : Nat}, l.Nodup → l.idxOf? v = some k → l.eraseIdx k = l.filter (· ≠ v) := by
  intro l
  induction l with
  | nil => intro k _ h; cases h
  | cons a l ih =>
    intro k hn h
    rw [List.nodup_cons] at hn
    rw [List.idxOf?_cons] at h
    by_cases e : a = v
    · subst e
      simp at h
      subst h
      rw [List.eraseIdx_cons_zero, List.filter_cons_of_neg (by simp)]
      rw [List.filter_eq_self.mpr (fun y hy => by simp; rintro rfl; exact hn.1 hy)]
    · simp only [beq_iff_eq, e, if_false] at h
      cases h2 : l.idxOf? v with
      | none => rw [h2] at h; cases h
      | some j =>
        rw [h2] at h
        cases h
        rw [List.eraseIdx_cons_succ, List.filter_cons_of_pos (by simp [e]), ih hn.2 h2]
theorem fl_self {l : List Nat} {v : Nat} (h : l.idxOf? v = none) : l.filter (· ≠ v) = l := by
  rw [List.idxOf?_eq_none_iff] at h
  exact List.filter_eq_self.mpr (fun y hy => by simp; rintro rfl; exact h hy)
theorem M_leavesRow_l {l : List Nat} {k : Nat} (hk : k < l.length) (hl : l.length ≤ 12) : ∀ (n i : Nat) (t : Nat → Int32), i + n + 1 = l.length → k ≤ i → t 438 = nI (l.length - 1) → (∀ j v, j < i → (l.eraseIdx k)[j]? = some v → t (72 + j) = nI v) → (∀ j v, i ≤ j → l[j]? = some v → t (72 + j) = nI v) →
    ∃ t', EV ρ (d + 2) 53 25 [.ref 257, zU, zU, .int (nI i)] [] (mk c R (va_up I 274 t) L) = some ([], mk c R (va_up I 274 t') L) ∧ RowM t' (l.eraseIdx k) ∧ ∀ m, ¬ (72 ≤ m ∧ m < 84) → m ≠ 438 → t' m = t m := by
  have hle : (l.eraseIdx k).length = l.length - 1 := List.length_eraseIdx_of_lt hk
  intro n
  induction n with
  | zero =>
    intro i t hi hki h0 hA hB
    refine ⟨t, ?_, ⟨by rw [h0, hle], by omega, fun j v hj => hA j v ?_ hj⟩, fun m _ _ => rfl⟩
    · rw [bM_leavesRow_25, va_s, h0, if_pos (nI_le (by omega) (by omega))]
    · have := (List.getElem?_eq_some_iff.mp hj).1
      omega
  | succ n ih =>
    intro i t hi hki h0 hA hB
    have hi1 : i + 1 < l.length := by omega
    rw [bM_leavesRow_25, va_s, h0, if_neg (nI_ge (by omega) (by omega)), nI_add 72 i, nI_add, zidx_n (by omega) (by decide), zidx_n (by omega) (by decide), bM_leavesRow_57, nI_add, z2_u]
    have hA2 : ∀ j v, j < i + 1 → (l.eraseIdx k)[j]? = some v → va_up t (72 + i) (t (72 + i + 1)) (72 + j) = nI v := fun j v hj hv => by
      by_cases e : j = i
      · subst e
        rw [va_up_self]
        rw [List.getElem?_eraseIdx_of_ge hki] at hv
        exact hB (j + 1) v (by omega) hv
      · rw [va_up_ne _ _ (by omega)]
        exact hA j v (by omega) hv
    have hB2 : ∀ j v, i + 1 ≤ j → l[j]? = some v → va_up t (72 + i) (t (72 + i + 1)) (72 + j) = nI v := fun j v hj hv => by
      rw [va_up_ne _ _ (by omega)]
      exact hB j v (by omega) hv
    obtain ⟨t', h1, h2, h3⟩ := ih (i + 1) (va_up t (72 + i) (t (72 + i + 1))) (by omega) (by omega) (by rw [va_up_ne _ _ (by omega)]; exact h0) hA2 hB2
    exact ⟨t', h1, h2, fun m g1 g2 => by rw [h3 m g1 g2, va_up_ne _ _ (by omega)]⟩
def rwB (l : List Nat) : Prop := l.Nodup ∧ ∀ y ∈ l, y < 12
theorem M_leavesRow_e (hT : MR T (I 274)) (hb : ∀ y ∈ T.1.2.2.1, y < 12) (hr : rwB T.1.2.1.2) {v : Nat} (hv : v < 12) : ∃ s, EV ρ (d + 2) 53 0 [.ref 257, .int (nI v), zU, zU] [] (mk c R I L) = some ([], mk c R (va_up I 274 s) L) ∧ MR (u_row T (T.1.2.1.2.filter (· ≠ v))) s := by
  have hR := hT.2.2.2.1
  have hl := hR.2.1
  rw [bM_leavesRow_0, M_inRow_e hR (fun x hx => by have := hr.2 x hx; omega) (by omega), zci, bM_leavesRow_5]
  cases e : T.1.2.1.2.idxOf? v with
  | none =>
    refine ⟨I 274, ?_, ?_⟩
    · rw [if_neg (by decide), va_e]
    · rw [fl_self e]; exact hT
  | some k =>
    have hk : k < T.1.2.1.2.length := by
      rw [List.idxOf?, List.findIdx?_eq_some_iff_getElem] at e
      exact e.1
    rw [eO_s, if_pos (nI_pos' (by omega)), bM_leavesRow_23, hR.1, pk_sub (by omega)]
    have hA2 : ∀ j w, j < k → (T.1.2.1.2.eraseIdx k)[j]? = some w → va_up (I 274) 438 (nI (T.1.2.1.2.length - 1)) (72 + j) = nI w := fun j w hj hw => by
      rw [List.getElem?_eraseIdx_of_lt hj] at hw
      rw [va_up_ne _ _ (by omega)]
      exact hR.2.2 j w hw
    have hB2 : ∀ j w, k ≤ j → T.1.2.1.2[j]? = some w → va_up (I 274) 438 (nI (T.1.2.1.2.length - 1)) (72 + j) = nI w := fun j w hj hw => by
      have := (List.getElem?_eq_some_iff.mp hw).1
      rw [va_up_ne _ _ (by omega)]
      exact hR.2.2 j w hw
    obtain ⟨t', h1, h2, h3⟩ := M_leavesRow_l (ρ := ρ) (d := d) (c := c) (R := R) (I := I) (L := L) hk hl (T.1.2.1.2.length - 1 - k) k (va_up (I 274) 438 (nI (T.1.2.1.2.length - 1))) (by omega) (Nat.le_refl _) (va_up_self _ _ _) hA2 hB2
    refine ⟨t', h1, ?_⟩
    rw [← er_fl hr.1 e]
    exact MR_row hT hb (fun m g1 g2 => by rw [h3 m g1 g2, va_up_ne _ _ g2]) h2
def tDefer (T : TT) (x : Nat) : TT := u_row (u_st T (va_up T.1.1.1.1 x 2)) (if x ∈ T.1.2.1.2 then T.1.2.1.2 else T.1.2.1.2 ++ [x])
def tIdle (T : TT) (x : Nat) : TT := u_row (u_st T (va_up T.1.1.1.1 x 1)) (T.1.2.1.2.filter (· ≠ x))
theorem rw_len {l : List Nat} {x : Nat} (h : rwB l) (hx : x < 12) (hn : x ∉ l) : l.length < 12 := by
  have := nd_len (l := x :: l) (n := 12) (List.nodup_cons.mpr ⟨hn, h.1⟩) (fun v hv => by
    rcases List.mem_cons.mp hv with rfl | hv
    · exact hx
    · exact h.2 v hv)
  rw [List.length_cons] at this
  omega
theorem M_defers_g {x : Nat} (hx : x < 12) {U : TT} (h1 : MR U (va_up (I 274) x (nI 2))) (hb : ∀ y ∈ U.1.2.2.1, y < 12) (hr : rwB U.1.2.1.2) : ∃ s, EV ρ (d + 2) 54 0 [.ref 257, .int (nI x)] [] (mk c R I L) = some ([], mk c R (va_up I 274 s) L) ∧ MR (u_row U (if x ∈ U.1.2.1.2 then U.1.2.1.2 else U.1.2.1.2 ++ [x])) s := by
  have hR := h1.2.2.2.1
  rw [bM_defers_0, nI_add, Nat.zero_add, zidx_n (by omega) (by decide)]
  have e0 : z2 I 274 x (nI 2) = va_up I 274 (va_up (I 274) x (nI 2)) := rfl
  rw [e0, bM_defers_9, M_inRow_e (l := U.1.2.1.2) (by rw [va_s]; exact hR) (fun y hy => by have := hr.2 y hy; omega) (by omega), zci, bM_defers_14]
  cases e : U.1.2.1.2.idxOf? x with
  | none =>
    have hm : x ∉ U.1.2.1.2 := List.idxOf?_eq_none_iff.mp e
    have hl := rw_len hr hx hm
    have hR1 : va_up (I 274) x (nI 2) 438 = nI U.1.2.1.2.length := hR.1
    rw [if_pos (by decide), if_neg hm, va_s, hR1, nI_add, zidx_n (by omega) (by decide), bM_defers_35, bM_defers_47, z2_u, va_s, va_up_ne _ _ (show 438 ≠ 72 + U.1.2.1.2.length by omega), hR1, nI_add, z2_u]
    refine ⟨_, rfl, MR_row h1 hb (fun m g1 g2 => ?_) ⟨?_, ?_, fun i v hi => ?_⟩⟩
    · rw [va_up_ne _ _ g2, va_up_ne _ _ (by omega)]
    · rw [va_up_self]; simp
    · simp; omega
    · rw [va_up_ne _ _ (by have := (List.getElem?_eq_some_iff.mp hi).1; simp at this; omega)]
      rcases Nat.lt_trichotomy i U.1.2.1.2.length with g | g | g
      · rw [va_up_ne _ _ (by omega)]
        rw [List.getElem?_append_left g] at hi
        exact hR.2.2 i v hi
      · subst g
        rw [va_up_self]
        simp at hi
        rw [hi]
      · rw [List.getElem?_eq_none (by simp; omega)] at hi
        cases hi
  | some k =>
    have hm : x ∈ U.1.2.1.2 := Classical.byContradiction fun z => by
      rw [List.idxOf?_eq_none_iff.mpr z] at e
      cases e
    have hk : k < U.1.2.1.2.length := by
      rw [List.idxOf?, List.findIdx?_eq_some_iff_getElem] at e
      exact e.1
    have := hR.2.1
    rw [eO_s, if_neg (nI_pos (by omega)), if_pos hm]
    exact ⟨_, rfl, h1⟩
theorem M_defers_e (hT : MR T (I 274)) (hb : ∀ y ∈ T.1.2.2.1, y < 12) (hr : rwB T.1.2.1.2) {x : Nat} (hx : x < 12) (h3 : T.1.1.1.1 x ≠ 3) : ∃ s, EV ρ (d + 2) 54 0 [.ref 257, .int (nI x)] [] (mk c R I L) = some ([], mk c R (va_up I 274 s) L) ∧ MR (tDefer T x) s := M_defers_g (U := u_st T (va_up T.1.1.1.1 x 2)) hx (MR_st hx h3 (v := 2) (by decide) hT) hb hr
theorem M_idles_e (hT : MR T (I 274)) (hb : ∀ y ∈ T.1.2.2.1, y < 12) (hr : rwB T.1.2.1.2) {x : Nat} (hx : x < 12) (h3 : T.1.1.1.1 x ≠ 3) : ∃ s, EV ρ (d + 3) 55 0 [.ref 257, .int (nI x)] [] (mk c R I L) = some ([], mk c R (va_up I 274 s) L) ∧ MR (tIdle T x) s := by
  have h1 := MR_st hx h3 (v := 1) (by decide) hT
  rw [bM_idles_0, nI_add, Nat.zero_add, zidx_n (by omega) (by decide)]
  have e0 : z2 I 274 x (nI 1) = va_up I 274 (va_up (I 274) x (nI 1)) := rfl
  rw [e0, bM_idles_9]
  obtain ⟨s, h4, h5⟩ := M_leavesRow_e (ρ := ρ) (d := d) (c := c) (R := R) (I := va_up I 274 (va_up (I 274) x (nI 1))) (L := L) (T := u_st T (va_up T.1.1.1.1 x 1)) (by rw [va_s]; exact h1) hb hr hx
  rw [h4, zcv, bM_idles_14, bx_uu]
  exact ⟨s, rfl, h5⟩
def tTake (T : TT) (x : Nat) (z : Nat × Nat) : TT := u_tk T (va_up T.2.2.2.1 x (T.2.2.2.1 x ++ [z]))
theorem M_takes_e (hT : MR T (I 274)) (hb : ∀ y ∈ T.1.2.2.1, y < 12) {x : Nat} (hx : x < 12) (z : Nat × Nat) (hl : (T.2.2.2.1 x).length < 6) : ∃ s, EV ρ (d + 1) 46 0 [.ref 257, .int (nI x), .int (nI z.1), .int (nI z.2), zU] [] (mk c R I L) = some ([], mk c R (va_up I 274 s) L) ∧ MR (tTake T x z) s := by
  obtain ⟨h1, h2, h3⟩ := hT.2.2.2.2.2.2 x hx
  rw [bM_takes_0, nI_add, zidx_n (by omega) (by decide), h2, pk_mul, nI_add, pk_mul, nI_add, zidx_n (by omega) (by decide)]
  have e0 : ∀ j v, z2 I 274 j v = va_up I 274 (va_up (I 274) j v) := fun _ _ => rfl
  rw [e0, bM_takes_29, nI_add, zidx_n (by omega) (by decide), z2_u, bM_takes_39, nI_add, zidx_n (by omega) (by decide), zidx_n (by omega) (by decide), va_s, va_up_ne _ _ (by omega), va_up_ne _ _ (by omega), h2, nI_add, z2_u, bM_takes_52]
  refine ⟨_, rfl, MR_tk hx hT hb (fun m g1 g2 => ?_) ⟨?_, ?_, fun k w hk => ?_⟩⟩
  · rw [va_up_ne _ _ g1, va_up_ne _ _ (by omega), va_up_ne _ _ (by omega)]
  · simp; omega
  · rw [va_up_self]; simp
  · have hk2 := (List.getElem?_eq_some_iff.mp hk).1
    simp at hk2
    rw [va_up_ne _ _ (by omega), va_up_ne (j := 120 + 12 * x + 2 * k + 1) _ _ (by omega)]
    rcases Nat.lt_or_ge k (T.2.2.2.1 x).length with g | g
    · rw [va_up_ne _ _ (by omega), va_up_ne _ _ (by omega), va_up_ne _ _ (by omega), va_up_ne _ _ (by omega)]
      rw [List.getElem?_append_left g] at hk
      exact h3 k w hk
    · obtain rfl : k = (T.2.2.2.1 x).length := by omega
      simp at hk
      rw [va_up_ne _ _ (by omega), va_up_self, va_up_self, hk]
      exact ⟨rfl, rfl⟩
end MROW
