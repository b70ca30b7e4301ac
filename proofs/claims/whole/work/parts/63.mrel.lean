-- THE REFERENCE'S STATE: one change at a time
theorem va_e (I : Nat → Nat → Int32) (q : Nat) : va_up I q (I q) = I := by
  funext k
  unfold va_up
  by_cases h : k = q
  · subst h; simp
  · simp [h]
theorem z2_u (I : Nat → Nat → Int32) (q j : Nat) (s : Nat → Int32) (v : Int32) : z2 (va_up I q s) q j v = va_up I q (va_up s j v) := by
  unfold z2
  rw [va_up_self, bx_uu]
theorem z2_c {q q2 : Nat} (h : q ≠ q2) (I : Nat → Nat → Int32) (j : Nat) (s : Nat → Int32) (v : Int32) : z2 (va_up I q2 s) q j v = va_up (z2 I q j v) q2 s := by
  funext k
  unfold z2 va_up
  by_cases h1 : k = q
  · subst h1; simp [h]
  · by_cases h2 : k = q2
    · subst h2; simp [Ne.symm h]
    · simp [h1, h2]
theorem va_s (I : Nat → Nat → Int32) (s : Nat → Int32) : va_up I 274 s 274 = s := va_up_self _ _ _
theorem va_n {q : Nat} (h : q ≠ 274) (I : Nat → Nat → Int32) (s : Nat → Int32) : va_up I 274 s q = I q := va_up_ne _ _ h
section MRS
variable {T : TT} {s : Nat → Int32}
theorem RowM_to {t : Nat → Int32} {l : List Nat} (h : RowM s l) (h1 : ∀ k, 72 ≤ k → k < 84 → t k = s k) (h2 : t 438 = s 438) : RowM t l := ⟨h2.trans h.1, h.2.1, fun i v hi => by
  have := h.2.1
  have := (List.getElem?_eq_some_iff.mp hi).1
  rw [h1 _ (by omega) (by omega)]
  exact h.2.2 i v hi⟩
theorem LogM_to {t : Nat → Int32} {l : List (Int32 × Int32 × Int32)} (h : LogM s l) (h1 : ∀ k, 288 ≤ k → k < 438 → t k = s k) (h2 : t 442 = s 442) : LogM t l := ⟨h2.trans h.1, h.2.1, fun i v hi => by
  have := h.2.1
  have := (List.getElem?_eq_some_iff.mp hi).1
  rw [h1 _ (by omega) (by omega), h1 _ (by omega) (by omega), h1 _ (by omega) (by omega)]
  exact h.2.2 i v hi⟩
theorem StM_to {t : Nat → Int32} {l : List Nat} {n : Nat} (h : StM s l n) (h1 : ∀ k, 60 ≤ k → t k = s k) (h2 : t 440 = s 440) : StM t l n := by
  obtain ⟨a, f, b, e⟩ := h
  exact ⟨h2.trans a, f, fun x hx => by rw [h1 _ (by omega)]; exact b x hx, e⟩
theorem TkM_to {t : Nat → Int32} {x : Nat} {l : List (Nat × Nat)} (h : TkM s x l) (hx : x < 12) (h1 : ∀ k, 108 ≤ k → k < 264 → t k = s k) : TkM t x l := ⟨h.1, by rw [h1 _ (by omega) (by omega)]; exact h.2.1, fun k z hk => by
  have := h.1
  have := (List.getElem?_eq_some_iff.mp hk).1
  rw [h1 _ (by omega) (by omega), h1 _ (by omega) (by omega)]
  exact h.2.2 k z hk⟩
theorem StM_72 {t : Nat → Int32} {l : List Nat} {n : Nat} (hl : ∀ x ∈ l, x < 12) (h : StM s l n) (h1 : ∀ k, 60 ≤ k → k < 72 → t k = s k) (h2 : t 440 = s 440) : StM t l n := by
  obtain ⟨a, f, b, e⟩ := h
  exact ⟨h2.trans a, f, fun x hx => by rw [h1 _ (by omega) (by have := hl x hx; omega)]; exact b x hx, e⟩

theorem MR_re {x : Nat} (hx : x < 12) (v : Int32) (h : MR T s) (hb : ∀ y ∈ T.1.2.2.1, y < 12) : MR (u_re T (va_up T.1.1.2.1 x v)) (va_up s (24 + x) v) := by
  obtain ⟨h1, h2, ⟨h3, h4, h5, h6⟩, h7, h8, h9, h10⟩ := h
  refine ⟨fun y hy => ?_, fun y hy => ?_, ⟨fun j hj => ?_, fun j hj => ?_, ?_, ?_⟩, RowM_to h7 (fun k g1 g2 => va_up_ne _ _ (by omega)) (va_up_ne _ _ (by omega)), LogM_to h8 (fun k g1 g2 => va_up_ne _ _ (by omega)) (va_up_ne _ _ (by omega)), StM_72 hb h9 (fun k g1 g2 => va_up_ne _ _ (by omega)) (va_up_ne _ _ (by omega)), fun y hy => TkM_to (h10 y hy) hy (fun k g1 g2 => va_up_ne _ _ (by omega))⟩
  · rw [va_up_ne _ _ (by omega), va_up_ne _ _ (by omega)]
    exact h1 y hy
  · obtain ⟨e1, e2, e3, e4, e5⟩ := h2 y hy
    refine ⟨?_, ?_, ?_, ?_, ?_⟩ <;> simp only [va_up] <;> split <;> (try split) <;> first | rfl | assumption | omega
  · have e1 := h3 j hj
    simp only [va_up] <;> split <;> (try split) <;> first | rfl | assumption | omega
  · have e1 := h4 j hj
    simp only [va_up] <;> split <;> (try split) <;> first | rfl | assumption | omega
  · first | exact va_up_self _ _ _ | (rw [va_up_ne _ _ (by omega)]; assumption)
  · first | exact va_up_self _ _ _ | (rw [va_up_ne _ _ (by omega)]; assumption)
theorem MR_ca {x : Nat} (hx : x < 12) (v : Int32) (h : MR T s) (hb : ∀ y ∈ T.1.2.2.1, y < 12) : MR (u_ca T (va_up T.1.1.2.2 x v)) (va_up s (36 + x) v) := by
  obtain ⟨h1, h2, ⟨h3, h4, h5, h6⟩, h7, h8, h9, h10⟩ := h
  refine ⟨fun y hy => ?_, fun y hy => ?_, ⟨fun j hj => ?_, fun j hj => ?_, ?_, ?_⟩, RowM_to h7 (fun k g1 g2 => va_up_ne _ _ (by omega)) (va_up_ne _ _ (by omega)), LogM_to h8 (fun k g1 g2 => va_up_ne _ _ (by omega)) (va_up_ne _ _ (by omega)), StM_72 hb h9 (fun k g1 g2 => va_up_ne _ _ (by omega)) (va_up_ne _ _ (by omega)), fun y hy => TkM_to (h10 y hy) hy (fun k g1 g2 => va_up_ne _ _ (by omega))⟩
  · rw [va_up_ne _ _ (by omega), va_up_ne _ _ (by omega)]
    exact h1 y hy
  · obtain ⟨e1, e2, e3, e4, e5⟩ := h2 y hy
    refine ⟨?_, ?_, ?_, ?_, ?_⟩ <;> simp only [va_up] <;> split <;> (try split) <;> first | rfl | assumption | omega
  · have e1 := h3 j hj
    simp only [va_up] <;> split <;> (try split) <;> first | rfl | assumption | omega
  · have e1 := h4 j hj
    simp only [va_up] <;> split <;> (try split) <;> first | rfl | assumption | omega
  · first | exact va_up_self _ _ _ | (rw [va_up_ne _ _ (by omega)]; assumption)
  · first | exact va_up_self _ _ _ | (rw [va_up_ne _ _ (by omega)]; assumption)
theorem MR_sy {x : Nat} (hx : x < 12) (v : Bool) (h : MR T s) (hb : ∀ y ∈ T.1.2.2.1, y < 12) : MR (u_sy T (va_up T.1.2.1.1 x v)) (va_up s (48 + x) (bo v)) := by
  obtain ⟨h1, h2, ⟨h3, h4, h5, h6⟩, h7, h8, h9, h10⟩ := h
  refine ⟨fun y hy => ?_, fun y hy => ?_, ⟨fun j hj => ?_, fun j hj => ?_, ?_, ?_⟩, RowM_to h7 (fun k g1 g2 => va_up_ne _ _ (by omega)) (va_up_ne _ _ (by omega)), LogM_to h8 (fun k g1 g2 => va_up_ne _ _ (by omega)) (va_up_ne _ _ (by omega)), StM_72 hb h9 (fun k g1 g2 => va_up_ne _ _ (by omega)) (va_up_ne _ _ (by omega)), fun y hy => TkM_to (h10 y hy) hy (fun k g1 g2 => va_up_ne _ _ (by omega))⟩
  · rw [va_up_ne _ _ (by omega), va_up_ne _ _ (by omega)]
    exact h1 y hy
  · obtain ⟨e1, e2, e3, e4, e5⟩ := h2 y hy
    refine ⟨?_, ?_, ?_, ?_, ?_⟩ <;> simp only [va_up] <;> split <;> (try split) <;> first | rfl | assumption | omega
  · have e1 := h3 j hj
    simp only [va_up] <;> split <;> (try split) <;> first | rfl | assumption | omega
  · have e1 := h4 j hj
    simp only [va_up] <;> split <;> (try split) <;> first | rfl | assumption | omega
  · first | exact va_up_self _ _ _ | (rw [va_up_ne _ _ (by omega)]; assumption)
  · first | exact va_up_self _ _ _ | (rw [va_up_ne _ _ (by omega)]; assumption)
theorem MR_lk {x : Nat} (hx : x < 12) (v : Int32) (h : MR T s) (hb : ∀ y ∈ T.1.2.2.1, y < 12) : MR (u_lk T (va_up T.1.2.2.2 x v)) (va_up s (84 + x) v) := by
  obtain ⟨h1, h2, ⟨h3, h4, h5, h6⟩, h7, h8, h9, h10⟩ := h
  refine ⟨fun y hy => ?_, fun y hy => ?_, ⟨fun j hj => ?_, fun j hj => ?_, ?_, ?_⟩, RowM_to h7 (fun k g1 g2 => va_up_ne _ _ (by omega)) (va_up_ne _ _ (by omega)), LogM_to h8 (fun k g1 g2 => va_up_ne _ _ (by omega)) (va_up_ne _ _ (by omega)), StM_72 hb h9 (fun k g1 g2 => va_up_ne _ _ (by omega)) (va_up_ne _ _ (by omega)), fun y hy => TkM_to (h10 y hy) hy (fun k g1 g2 => va_up_ne _ _ (by omega))⟩
  · rw [va_up_ne _ _ (by omega), va_up_ne _ _ (by omega)]
    exact h1 y hy
  · obtain ⟨e1, e2, e3, e4, e5⟩ := h2 y hy
    refine ⟨?_, ?_, ?_, ?_, ?_⟩ <;> simp only [va_up] <;> split <;> (try split) <;> first | rfl | assumption | omega
  · have e1 := h3 j hj
    simp only [va_up] <;> split <;> (try split) <;> first | rfl | assumption | omega
  · have e1 := h4 j hj
    simp only [va_up] <;> split <;> (try split) <;> first | rfl | assumption | omega
  · first | exact va_up_self _ _ _ | (rw [va_up_ne _ _ (by omega)]; assumption)
  · first | exact va_up_self _ _ _ | (rw [va_up_ne _ _ (by omega)]; assumption)
theorem MR_co {x : Nat} (hx : x < 12) (v : Int32) (h : MR T s) (hb : ∀ y ∈ T.1.2.2.1, y < 12) : MR (u_co T (va_up T.2.1.1.1 x v)) (va_up s (96 + x) v) := by
  obtain ⟨h1, h2, ⟨h3, h4, h5, h6⟩, h7, h8, h9, h10⟩ := h
  refine ⟨fun y hy => ?_, fun y hy => ?_, ⟨fun j hj => ?_, fun j hj => ?_, ?_, ?_⟩, RowM_to h7 (fun k g1 g2 => va_up_ne _ _ (by omega)) (va_up_ne _ _ (by omega)), LogM_to h8 (fun k g1 g2 => va_up_ne _ _ (by omega)) (va_up_ne _ _ (by omega)), StM_72 hb h9 (fun k g1 g2 => va_up_ne _ _ (by omega)) (va_up_ne _ _ (by omega)), fun y hy => TkM_to (h10 y hy) hy (fun k g1 g2 => va_up_ne _ _ (by omega))⟩
  · rw [va_up_ne _ _ (by omega), va_up_ne _ _ (by omega)]
    exact h1 y hy
  · obtain ⟨e1, e2, e3, e4, e5⟩ := h2 y hy
    refine ⟨?_, ?_, ?_, ?_, ?_⟩ <;> simp only [va_up] <;> split <;> (try split) <;> first | rfl | assumption | omega
  · have e1 := h3 j hj
    simp only [va_up] <;> split <;> (try split) <;> first | rfl | assumption | omega
  · have e1 := h4 j hj
    simp only [va_up] <;> split <;> (try split) <;> first | rfl | assumption | omega
  · first | exact va_up_self _ _ _ | (rw [va_up_ne _ _ (by omega)]; assumption)
  · first | exact va_up_self _ _ _ | (rw [va_up_ne _ _ (by omega)]; assumption)
theorem MR_ln {x : Nat} (hx : x < 16) (v : Option Nat) (h : MR T s) (hb : ∀ y ∈ T.1.2.2.1, y < 12) : MR (u_ln T (va_up T.2.1.1.2 x v)) (va_up s (264 + x) (eO v)) := by
  obtain ⟨h1, h2, ⟨h3, h4, h5, h6⟩, h7, h8, h9, h10⟩ := h
  refine ⟨fun y hy => ?_, fun y hy => ?_, ⟨fun j hj => ?_, fun j hj => ?_, ?_, ?_⟩, RowM_to h7 (fun k g1 g2 => va_up_ne _ _ (by omega)) (va_up_ne _ _ (by omega)), LogM_to h8 (fun k g1 g2 => va_up_ne _ _ (by omega)) (va_up_ne _ _ (by omega)), StM_72 hb h9 (fun k g1 g2 => va_up_ne _ _ (by omega)) (va_up_ne _ _ (by omega)), fun y hy => TkM_to (h10 y hy) hy (fun k g1 g2 => va_up_ne _ _ (by omega))⟩
  · rw [va_up_ne _ _ (by omega), va_up_ne _ _ (by omega)]
    exact h1 y hy
  · obtain ⟨e1, e2, e3, e4, e5⟩ := h2 y hy
    refine ⟨?_, ?_, ?_, ?_, ?_⟩ <;> simp only [va_up] <;> split <;> (try split) <;> first | rfl | assumption | omega
  · have e1 := h3 j hj
    simp only [va_up] <;> split <;> (try split) <;> first | rfl | assumption | omega
  · have e1 := h4 j hj
    simp only [va_up] <;> split <;> (try split) <;> first | rfl | assumption | omega
  · first | exact va_up_self _ _ _ | (rw [va_up_ne _ _ (by omega)]; assumption)
  · first | exact va_up_self _ _ _ | (rw [va_up_ne _ _ (by omega)]; assumption)
theorem MR_gv {x : Nat} (hx : x < 8) (v : Option Nat) (h : MR T s) (hb : ∀ y ∈ T.1.2.2.1, y < 12) : MR (u_gv T (va_up T.2.1.2.1 x v)) (va_up s (280 + x) (eO v)) := by
  obtain ⟨h1, h2, ⟨h3, h4, h5, h6⟩, h7, h8, h9, h10⟩ := h
  refine ⟨fun y hy => ?_, fun y hy => ?_, ⟨fun j hj => ?_, fun j hj => ?_, ?_, ?_⟩, RowM_to h7 (fun k g1 g2 => va_up_ne _ _ (by omega)) (va_up_ne _ _ (by omega)), LogM_to h8 (fun k g1 g2 => va_up_ne _ _ (by omega)) (va_up_ne _ _ (by omega)), StM_72 hb h9 (fun k g1 g2 => va_up_ne _ _ (by omega)) (va_up_ne _ _ (by omega)), fun y hy => TkM_to (h10 y hy) hy (fun k g1 g2 => va_up_ne _ _ (by omega))⟩
  · rw [va_up_ne _ _ (by omega), va_up_ne _ _ (by omega)]
    exact h1 y hy
  · obtain ⟨e1, e2, e3, e4, e5⟩ := h2 y hy
    refine ⟨?_, ?_, ?_, ?_, ?_⟩ <;> simp only [va_up] <;> split <;> (try split) <;> first | rfl | assumption | omega
  · have e1 := h3 j hj
    simp only [va_up] <;> split <;> (try split) <;> first | rfl | assumption | omega
  · have e1 := h4 j hj
    simp only [va_up] <;> split <;> (try split) <;> first | rfl | assumption | omega
  · first | exact va_up_self _ _ _ | (rw [va_up_ne _ _ (by omega)]; assumption)
  · first | exact va_up_self _ _ _ | (rw [va_up_ne _ _ (by omega)]; assumption)
theorem MR_pool (v : Int32) (h : MR T s) (hb : ∀ y ∈ T.1.2.2.1, y < 12) : MR (u_pool T v) (va_up s (439) v) := by
  obtain ⟨h1, h2, ⟨h3, h4, h5, h6⟩, h7, h8, h9, h10⟩ := h
  refine ⟨fun y hy => ?_, fun y hy => ?_, ⟨fun j hj => ?_, fun j hj => ?_, ?_, ?_⟩, RowM_to h7 (fun k g1 g2 => va_up_ne _ _ (by omega)) (va_up_ne _ _ (by omega)), LogM_to h8 (fun k g1 g2 => va_up_ne _ _ (by omega)) (va_up_ne _ _ (by omega)), StM_72 hb h9 (fun k g1 g2 => va_up_ne _ _ (by omega)) (va_up_ne _ _ (by omega)), fun y hy => TkM_to (h10 y hy) hy (fun k g1 g2 => va_up_ne _ _ (by omega))⟩
  · rw [va_up_ne _ _ (by omega), va_up_ne _ _ (by omega)]
    exact h1 y hy
  · obtain ⟨e1, e2, e3, e4, e5⟩ := h2 y hy
    refine ⟨?_, ?_, ?_, ?_, ?_⟩ <;> simp only [va_up] <;> split <;> (try split) <;> first | rfl | assumption | omega
  · have e1 := h3 j hj
    simp only [va_up] <;> split <;> (try split) <;> first | rfl | assumption | omega
  · have e1 := h4 j hj
    simp only [va_up] <;> split <;> (try split) <;> first | rfl | assumption | omega
  · first | exact va_up_self _ _ _ | (rw [va_up_ne _ _ (by omega)]; assumption)
  · first | exact va_up_self _ _ _ | (rw [va_up_ne _ _ (by omega)]; assumption)
theorem MR_ld (v : Int32) (h : MR T s) (hb : ∀ y ∈ T.1.2.2.1, y < 12) : MR (u_ld T v) (va_up s (441) v) := by
  obtain ⟨h1, h2, ⟨h3, h4, h5, h6⟩, h7, h8, h9, h10⟩ := h
  refine ⟨fun y hy => ?_, fun y hy => ?_, ⟨fun j hj => ?_, fun j hj => ?_, ?_, ?_⟩, RowM_to h7 (fun k g1 g2 => va_up_ne _ _ (by omega)) (va_up_ne _ _ (by omega)), LogM_to h8 (fun k g1 g2 => va_up_ne _ _ (by omega)) (va_up_ne _ _ (by omega)), StM_72 hb h9 (fun k g1 g2 => va_up_ne _ _ (by omega)) (va_up_ne _ _ (by omega)), fun y hy => TkM_to (h10 y hy) hy (fun k g1 g2 => va_up_ne _ _ (by omega))⟩
  · rw [va_up_ne _ _ (by omega), va_up_ne _ _ (by omega)]
    exact h1 y hy
  · obtain ⟨e1, e2, e3, e4, e5⟩ := h2 y hy
    refine ⟨?_, ?_, ?_, ?_, ?_⟩ <;> simp only [va_up] <;> split <;> (try split) <;> first | rfl | assumption | omega
  · have e1 := h3 j hj
    simp only [va_up] <;> split <;> (try split) <;> first | rfl | assumption | omega
  · have e1 := h4 j hj
    simp only [va_up] <;> split <;> (try split) <;> first | rfl | assumption | omega
  · first | exact va_up_self _ _ _ | (rw [va_up_ne _ _ (by omega)]; assumption)
  · first | exact va_up_self _ _ _ | (rw [va_up_ne _ _ (by omega)]; assumption)
theorem MR_st {x : Nat} (hx : x < 12) {v : Nat} (h0 : T.1.1.1.1 x ≠ 3) (hv : v ≠ 3) (h : MR T s) : MR (u_st T (va_up T.1.1.1.1 x v)) (va_up s x (nI v)) := by
  obtain ⟨h1, h2, ⟨h3, h4, h5, h6⟩, h7, h8, h9, h10⟩ := h
  refine ⟨fun y hy => ?_, fun y hy => ?_, ⟨fun j hj => ?_, fun j hj => ?_, ?_, ?_⟩, RowM_to h7 (fun k g1 g2 => va_up_ne _ _ (by omega)) (va_up_ne _ _ (by omega)), LogM_to h8 (fun k g1 g2 => va_up_ne _ _ (by omega)) (va_up_ne _ _ (by omega)), StM_to h9 (fun k g1 => va_up_ne _ _ (by omega)) (va_up_ne _ _ (by omega)), fun y hy => TkM_to (h10 y hy) hy (fun k g1 g2 => va_up_ne _ _ (by omega))⟩
  · rw [va_up_ne s _ (show 12 + y ≠ x by omega)]
    by_cases e : y = x
    · subst e
      have := (h1 y hy).2
      rw [if_neg h0] at this
      show va_up s y (nI v) y = nI (va_up T.1.1.1.1 y v y) ∧ s (12 + y) = if va_up T.1.1.1.1 y v y = 3 then nI (T.1.1.1.2 y) else -1
      rw [va_up_self, va_up_self, if_neg hv]
      exact ⟨rfl, this⟩
    · show va_up s x (nI v) y = nI (va_up T.1.1.1.1 x v y) ∧ s (12 + y) = if va_up T.1.1.1.1 x v y = 3 then nI (T.1.1.1.2 y) else -1
      rw [va_up_ne _ _ e, va_up_ne _ _ e]
      exact h1 y hy
  · obtain ⟨e1, e2, e3, e4, e5⟩ := h2 y hy
    refine ⟨?_, ?_, ?_, ?_, ?_⟩ <;> simp only [va_up] <;> split <;> (try split) <;> first | rfl | assumption | omega
  · rw [va_up_ne _ _ (by omega)]; exact h3 j hj
  · rw [va_up_ne _ _ (by omega)]; exact h4 j hj
  · rw [va_up_ne _ _ (by omega)]; exact h5
  · rw [va_up_ne _ _ (by omega)]; exact h6
/-- a device is bound -/
theorem MR_bind {x : Nat} (hx : x < 12) (v : Nat) (hb : ∀ y ∈ T.1.2.2.1, y < 12) (hn : x ∉ T.1.2.2.1) (h : MR T s) : MR (u_cn (u_bnd (u_by (u_st T (va_up T.1.1.1.1 x 3)) (va_up T.1.1.1.2 x v)) (T.1.2.2.1 ++ [x])) (T.2.2.2.2 + 1)) (va_up (va_up (va_up (va_up s x (nI 3)) (12 + x) (nI v)) 440 (nI (T.2.2.2.2 + 1))) (60 + x) (nI (T.2.2.2.2 + 1))) := by
  obtain ⟨h1, h2, ⟨h3, h4, h5, h6⟩, h7, h8, h9, h10⟩ := h
  have hf : ∀ k, k ≠ x → k ≠ 12 + x → k ≠ 440 → k ≠ 60 + x → va_up (va_up (va_up (va_up s x (nI 3)) (12 + x) (nI v)) 440 (nI (T.2.2.2.2 + 1))) (60 + x) (nI (T.2.2.2.2 + 1)) k = s k := fun k g1 g2 g3 g4 => by
    rw [va_up_ne _ _ g4, va_up_ne _ _ g3, va_up_ne _ _ g2, va_up_ne _ _ g1]
  refine ⟨fun y hy => ?_, fun y hy => ?_, ⟨fun j hj => ?_, fun j hj => ?_, ?_, ?_⟩, RowM_to h7 (fun k g1 g2 => hf k (by omega) (by omega) (by omega) (by omega)) (hf _ (by omega) (by omega) (by omega) (by omega)), LogM_to h8 (fun k g1 g2 => hf k (by omega) (by omega) (by omega) (by omega)) (hf _ (by omega) (by omega) (by omega) (by omega)), ?_, fun y hy => TkM_to (h10 y hy) hy (fun k g1 g2 => hf k (by omega) (by omega) (by omega) (by omega))⟩
  · by_cases e : y = x
    · subst e
      show _ = nI (va_up T.1.1.1.1 y 3 y) ∧ _ = if va_up T.1.1.1.1 y 3 y = 3 then nI (va_up T.1.1.1.2 y v y) else -1
      rw [va_up_self T.1.1.1.1, va_up_self T.1.1.1.2, if_pos rfl]
      constructor
      · rw [va_up_ne _ _ (by omega), va_up_ne _ _ (by omega), va_up_ne _ _ (by omega), va_up_self]
      · rw [va_up_ne _ _ (by omega), va_up_ne _ _ (by omega), va_up_self]
    · show _ = nI (va_up T.1.1.1.1 x 3 y) ∧ _ = if va_up T.1.1.1.1 x 3 y = 3 then nI (va_up T.1.1.1.2 x v y) else -1
      rw [va_up_ne T.1.1.1.1 _ e, va_up_ne T.1.1.1.2 _ e, hf _ (by omega) (by omega) (by omega) (by omega), hf _ (by omega) (by omega) (by omega) (by omega)]
      exact h1 y hy
  · rw [hf _ (by omega) (by omega) (by omega) (by omega), hf _ (by omega) (by omega) (by omega) (by omega), hf _ (by omega) (by omega) (by omega) (by omega), hf _ (by omega) (by omega) (by omega) (by omega), hf _ (by omega) (by omega) (by omega) (by omega)]
    exact h2 y hy
  · rw [hf _ (by omega) (by omega) (by omega) (by omega)]; exact h3 j hj
  · rw [hf _ (by omega) (by omega) (by omega) (by omega)]; exact h4 j hj
  · rw [hf _ (by omega) (by omega) (by omega) (by omega)]; exact h5
  · rw [hf _ (by omega) (by omega) (by omega) (by omega)]; exact h6
  · obtain ⟨a, f, b, e⟩ := h9
    refine ⟨by rw [va_up_ne _ _ (by omega), va_up_self], va_up f x (T.2.2.2.2 + 1), fun y hy => ?_, ?_⟩
    · rcases List.mem_append.mp hy with hy | hy
      · have hne : y ≠ x := fun z => hn (z ▸ hy)
        have := hb y hy
        rw [va_up_ne f _ hne, hf _ (by omega) (by omega) (by omega) (by omega)]
        exact ⟨(b y hy).1, Nat.le_succ_of_le (b y hy).2⟩
      · obtain rfl := List.mem_singleton.mp hy
        rw [va_up_self, va_up_self]
        exact ⟨rfl, Nat.le_refl _⟩
    · rw [List.pairwise_append]
      refine ⟨List.Pairwise.imp_of_mem (fun {p r} hp hr hpr => ?_) e, List.pairwise_singleton _ _, fun p hp r hr => ?_⟩
      · have hpx : p ≠ x := fun z => hn (by rw [← z]; exact hp)
        have hrx : r ≠ x := fun z => hn (by rw [← z]; exact hr)
        rw [va_up_ne f _ hpx, va_up_ne f _ hrx]
        exact hpr
      · obtain rfl := List.mem_singleton.mp hr
        have hpx : p ≠ r := fun z => hn (by rw [← z]; exact hp)
        rw [va_up_self, va_up_ne f _ hpx]
        exact Nat.lt_succ_of_le (b p hp).2
/-- a device is bound no more -/
theorem MR_unb {x : Nat} (hx : x < 12) {v : Nat} (hv : v ≠ 3) (h : MR T s) : MR (u_bnd (u_st T (va_up T.1.1.1.1 x v)) (T.1.2.2.1.filter (· ≠ x))) (va_up (va_up s (12 + x) (-1)) x (nI v)) := by
  obtain ⟨h1, h2, ⟨h3, h4, h5, h6⟩, h7, h8, h9, h10⟩ := h
  have hf : ∀ k, k ≠ x → k ≠ 12 + x → va_up (va_up s (12 + x) (-1)) x (nI v) k = s k := fun k g1 g2 => by
    rw [va_up_ne _ _ g1, va_up_ne _ _ g2]
  refine ⟨fun y hy => ?_, fun y hy => ?_, ⟨fun j hj => ?_, fun j hj => ?_, ?_, ?_⟩, RowM_to h7 (fun k g1 g2 => hf k (by omega) (by omega)) (hf _ (by omega) (by omega)), LogM_to h8 (fun k g1 g2 => hf k (by omega) (by omega)) (hf _ (by omega) (by omega)), ?_, fun y hy => TkM_to (h10 y hy) hy (fun k g1 g2 => hf k (by omega) (by omega))⟩
  · by_cases e : y = x
    · subst e
      show _ = nI (va_up T.1.1.1.1 y v y) ∧ _ = if va_up T.1.1.1.1 y v y = 3 then nI (T.1.1.1.2 y) else -1
      rw [va_up_self T.1.1.1.1, if_neg hv, va_up_self, va_up_ne _ _ (by omega), va_up_self]
      exact ⟨rfl, rfl⟩
    · show _ = nI (va_up T.1.1.1.1 x v y) ∧ _ = if va_up T.1.1.1.1 x v y = 3 then nI (T.1.1.1.2 y) else -1
      rw [va_up_ne T.1.1.1.1 _ e, hf _ (by omega) (by omega), hf _ (by omega) (by omega)]
      exact h1 y hy
  · rw [hf _ (by omega) (by omega), hf _ (by omega) (by omega), hf _ (by omega) (by omega), hf _ (by omega) (by omega), hf _ (by omega) (by omega)]
    exact h2 y hy
  · rw [hf _ (by omega) (by omega)]; exact h3 j hj
  · rw [hf _ (by omega) (by omega)]; exact h4 j hj
  · rw [hf _ (by omega) (by omega)]; exact h5
  · rw [hf _ (by omega) (by omega)]; exact h6
  · obtain ⟨a, f, b, e⟩ := h9
    exact ⟨by rw [hf _ (by omega) (by omega)]; exact a, f, fun y hy => by rw [hf _ (by omega) (by omega)]; exact b y (List.mem_filter.mp hy).1, e.sublist List.filter_sublist⟩
end MRS
