-- THE COMPONENT'S BENCH: one change at a time
theorem xb_104 {b : Nat} (hb : isB b) : ∀ k, k ≤ 17 → b + k ≠ 104 := fun k hk => by unfold isB at hb; omega
theorem xb_18 {b : Nat} (hb : isB b) : b = 86 ∨ 107 ≤ b := by unfold isB at hb; omega
section CRS
variable {b : Nat} {T : TT} {I J : Nat → Nat → Int32}
theorem JouIs_to {l : List (Int32 × Int32 × Int32)} (h : JouIs I l) (h8 : J 8 = I 8) (h9 : J 9 = I 9) : JouIs J l := by
  unfold JouIs
  rw [h8, h9]
  exact h
/-- what CR looks at is the same -/
theorem CR_to (h : CR b T I) (h1 : ∀ k, k ∈ [1, 2, 3, 4, 6, 7, 8, 9, 10, 11, 14, 15] → J (b + k) = I (b + k)) (h15 : J b 15 = I b 15) (h16 : J b 16 = I b 16) (h17 : J b 17 = I b 17) (hj : b = 86 → J 8 = I 8 ∧ J 9 = I 9) (h104 : J 104 0 = I 104 0) : CR b T J := by
  obtain ⟨g1, g2, ⟨g3, g4, g5, g6⟩, g7, g8, g9, g10⟩ := h
  refine ⟨fun y hy => ?_, fun y hy => ?_, ⟨fun j hj => ?_, fun j hj => ?_, ?_, ?_⟩, RowIs_to g7 (h1 10 (by decide)) (h1 11 (by decide)), RowIs_to g8 (h1 14 (by decide)) (h1 15 (by decide)), fun e => ?_, ?_⟩
  · rw [h1 1 (by decide), h1 2 (by decide)]; exact g1 y hy
  · rw [h1 3 (by decide), h1 4 (by decide), h1 7 (by decide), h1 6 (by decide)]; exact g2 y hy
  · rw [h1 8 (by decide)]; exact g3 j hj
  · rw [h1 9 (by decide)]; exact g4 j hj
  · rw [h15]; exact g5
  · rw [h16]; exact g6
  · refine ⟨JouIs_to (g9 e).1 (hj e).1 (hj e).2, fun j hj2 => ?_⟩
    have e17 : J 86 17 = I 86 17 := by rw [← e]; exact h17
    rw [e17]
    exact (g9 e).2 j hj2
  · rw [h104]; exact g10
theorem CR_re {x : Nat} (hx : x < 12) (v : Int32) (hb : isB b) (h : CR b T I) : CR b (u_re T (va_up T.1.1.2.1 x v)) (z2 I (b + 3) x v) := by
  have hge := xb_ge hb
  have h18 := xb_18 hb
  obtain ⟨g1, g2, ⟨g3, g4, g5, g6⟩, g7, g8, g9, g10⟩ := h
  refine ⟨fun y hy => ?_, fun y hy => ?_, ⟨fun j hj => ?_, fun j hj => ?_, ?_, ?_⟩, RowIs_to g7 (z2_ne (by omega)) (z2_ne (by omega)), RowIs_to g8 (z2_ne (by omega)) (z2_ne (by omega)), fun e => ⟨JouIs_to (g9 e).1 (z2_ne (by omega)) (z2_ne (by omega)), by rw [z2_ne (by omega)]; exact (g9 e).2⟩, ?_⟩
  · rw [z2_ne (by omega), z2_ne (by omega)]; exact g1 y hy
  · obtain ⟨e1, e2, e3, e4⟩ := g2 y hy
    by_cases e : y = x
    · subst e
      refine ⟨?_, ?_, ?_, ?_⟩ <;> first | (rw [z2_ne (by omega)]; assumption) | (rw [z2a, if_pos ⟨rfl, rfl⟩]; exact (va_up_self _ _ _).symm)
    · refine ⟨?_, ?_, ?_, ?_⟩ <;> first | (rw [z2_ne (by omega)]; assumption) | (rw [z2a, if_neg (fun z => e z.2)]; refine Eq.trans ?_ (va_up_ne _ _ e).symm; assumption)
  · have e1 := g3 j hj
    by_cases e : j = x
    · subst e
      first | (rw [z2_ne (by omega)]; assumption) | (rw [z2a, if_pos ⟨rfl, rfl⟩]; exact (congrArg eO (va_up_self _ _ _)).symm)
    · first | (rw [z2_ne (by omega)]; assumption) | (rw [z2a, if_neg (fun z => e z.2)]; refine Eq.trans ?_ (congrArg eO (va_up_ne _ _ e)).symm; assumption)
  · have e1 := g4 j hj
    by_cases e : j = x
    · subst e
      first | (rw [z2_ne (by omega)]; assumption) | (rw [z2a, if_pos ⟨rfl, rfl⟩]; exact (congrArg eO (va_up_self _ _ _)).symm)
    · first | (rw [z2_ne (by omega)]; assumption) | (rw [z2a, if_neg (fun z => e z.2)]; refine Eq.trans ?_ (congrArg eO (va_up_ne _ _ e)).symm; assumption)
  · rw [z2_ne (by omega)]; exact g5
  · rw [z2_ne (by omega)]; exact g6
  · rw [z2_ne (by omega)]; exact g10
theorem CR_ca {x : Nat} (hx : x < 12) (v : Int32) (hb : isB b) (h : CR b T I) : CR b (u_ca T (va_up T.1.1.2.2 x v)) (z2 I (b + 4) x v) := by
  have hge := xb_ge hb
  have h18 := xb_18 hb
  obtain ⟨g1, g2, ⟨g3, g4, g5, g6⟩, g7, g8, g9, g10⟩ := h
  refine ⟨fun y hy => ?_, fun y hy => ?_, ⟨fun j hj => ?_, fun j hj => ?_, ?_, ?_⟩, RowIs_to g7 (z2_ne (by omega)) (z2_ne (by omega)), RowIs_to g8 (z2_ne (by omega)) (z2_ne (by omega)), fun e => ⟨JouIs_to (g9 e).1 (z2_ne (by omega)) (z2_ne (by omega)), by rw [z2_ne (by omega)]; exact (g9 e).2⟩, ?_⟩
  · rw [z2_ne (by omega), z2_ne (by omega)]; exact g1 y hy
  · obtain ⟨e1, e2, e3, e4⟩ := g2 y hy
    by_cases e : y = x
    · subst e
      refine ⟨?_, ?_, ?_, ?_⟩ <;> first | (rw [z2_ne (by omega)]; assumption) | (rw [z2a, if_pos ⟨rfl, rfl⟩]; exact (va_up_self _ _ _).symm)
    · refine ⟨?_, ?_, ?_, ?_⟩ <;> first | (rw [z2_ne (by omega)]; assumption) | (rw [z2a, if_neg (fun z => e z.2)]; refine Eq.trans ?_ (va_up_ne _ _ e).symm; assumption)
  · have e1 := g3 j hj
    by_cases e : j = x
    · subst e
      first | (rw [z2_ne (by omega)]; assumption) | (rw [z2a, if_pos ⟨rfl, rfl⟩]; exact (congrArg eO (va_up_self _ _ _)).symm)
    · first | (rw [z2_ne (by omega)]; assumption) | (rw [z2a, if_neg (fun z => e z.2)]; refine Eq.trans ?_ (congrArg eO (va_up_ne _ _ e)).symm; assumption)
  · have e1 := g4 j hj
    by_cases e : j = x
    · subst e
      first | (rw [z2_ne (by omega)]; assumption) | (rw [z2a, if_pos ⟨rfl, rfl⟩]; exact (congrArg eO (va_up_self _ _ _)).symm)
    · first | (rw [z2_ne (by omega)]; assumption) | (rw [z2a, if_neg (fun z => e z.2)]; refine Eq.trans ?_ (congrArg eO (va_up_ne _ _ e)).symm; assumption)
  · rw [z2_ne (by omega)]; exact g5
  · rw [z2_ne (by omega)]; exact g6
  · rw [z2_ne (by omega)]; exact g10
theorem CR_lk {x : Nat} (hx : x < 12) (v : Int32) (hb : isB b) (h : CR b T I) : CR b (u_lk T (va_up T.1.2.2.2 x v)) (z2 I (b + 7) x v) := by
  have hge := xb_ge hb
  have h18 := xb_18 hb
  obtain ⟨g1, g2, ⟨g3, g4, g5, g6⟩, g7, g8, g9, g10⟩ := h
  refine ⟨fun y hy => ?_, fun y hy => ?_, ⟨fun j hj => ?_, fun j hj => ?_, ?_, ?_⟩, RowIs_to g7 (z2_ne (by omega)) (z2_ne (by omega)), RowIs_to g8 (z2_ne (by omega)) (z2_ne (by omega)), fun e => ⟨JouIs_to (g9 e).1 (z2_ne (by omega)) (z2_ne (by omega)), by rw [z2_ne (by omega)]; exact (g9 e).2⟩, ?_⟩
  · rw [z2_ne (by omega), z2_ne (by omega)]; exact g1 y hy
  · obtain ⟨e1, e2, e3, e4⟩ := g2 y hy
    by_cases e : y = x
    · subst e
      refine ⟨?_, ?_, ?_, ?_⟩ <;> first | (rw [z2_ne (by omega)]; assumption) | (rw [z2a, if_pos ⟨rfl, rfl⟩]; exact (va_up_self _ _ _).symm)
    · refine ⟨?_, ?_, ?_, ?_⟩ <;> first | (rw [z2_ne (by omega)]; assumption) | (rw [z2a, if_neg (fun z => e z.2)]; refine Eq.trans ?_ (va_up_ne _ _ e).symm; assumption)
  · have e1 := g3 j hj
    by_cases e : j = x
    · subst e
      first | (rw [z2_ne (by omega)]; assumption) | (rw [z2a, if_pos ⟨rfl, rfl⟩]; exact (congrArg eO (va_up_self _ _ _)).symm)
    · first | (rw [z2_ne (by omega)]; assumption) | (rw [z2a, if_neg (fun z => e z.2)]; refine Eq.trans ?_ (congrArg eO (va_up_ne _ _ e)).symm; assumption)
  · have e1 := g4 j hj
    by_cases e : j = x
    · subst e
      first | (rw [z2_ne (by omega)]; assumption) | (rw [z2a, if_pos ⟨rfl, rfl⟩]; exact (congrArg eO (va_up_self _ _ _)).symm)
    · first | (rw [z2_ne (by omega)]; assumption) | (rw [z2a, if_neg (fun z => e z.2)]; refine Eq.trans ?_ (congrArg eO (va_up_ne _ _ e)).symm; assumption)
  · rw [z2_ne (by omega)]; exact g5
  · rw [z2_ne (by omega)]; exact g6
  · rw [z2_ne (by omega)]; exact g10
theorem CR_co {x : Nat} (hx : x < 12) (v : Int32) (hb : isB b) (h : CR b T I) : CR b (u_co T (va_up T.2.1.1.1 x v)) (z2 I (b + 6) x v) := by
  have hge := xb_ge hb
  have h18 := xb_18 hb
  obtain ⟨g1, g2, ⟨g3, g4, g5, g6⟩, g7, g8, g9, g10⟩ := h
  refine ⟨fun y hy => ?_, fun y hy => ?_, ⟨fun j hj => ?_, fun j hj => ?_, ?_, ?_⟩, RowIs_to g7 (z2_ne (by omega)) (z2_ne (by omega)), RowIs_to g8 (z2_ne (by omega)) (z2_ne (by omega)), fun e => ⟨JouIs_to (g9 e).1 (z2_ne (by omega)) (z2_ne (by omega)), by rw [z2_ne (by omega)]; exact (g9 e).2⟩, ?_⟩
  · rw [z2_ne (by omega), z2_ne (by omega)]; exact g1 y hy
  · obtain ⟨e1, e2, e3, e4⟩ := g2 y hy
    by_cases e : y = x
    · subst e
      refine ⟨?_, ?_, ?_, ?_⟩ <;> first | (rw [z2_ne (by omega)]; assumption) | (rw [z2a, if_pos ⟨rfl, rfl⟩]; exact (va_up_self _ _ _).symm)
    · refine ⟨?_, ?_, ?_, ?_⟩ <;> first | (rw [z2_ne (by omega)]; assumption) | (rw [z2a, if_neg (fun z => e z.2)]; refine Eq.trans ?_ (va_up_ne _ _ e).symm; assumption)
  · have e1 := g3 j hj
    by_cases e : j = x
    · subst e
      first | (rw [z2_ne (by omega)]; assumption) | (rw [z2a, if_pos ⟨rfl, rfl⟩]; exact (congrArg eO (va_up_self _ _ _)).symm)
    · first | (rw [z2_ne (by omega)]; assumption) | (rw [z2a, if_neg (fun z => e z.2)]; refine Eq.trans ?_ (congrArg eO (va_up_ne _ _ e)).symm; assumption)
  · have e1 := g4 j hj
    by_cases e : j = x
    · subst e
      first | (rw [z2_ne (by omega)]; assumption) | (rw [z2a, if_pos ⟨rfl, rfl⟩]; exact (congrArg eO (va_up_self _ _ _)).symm)
    · first | (rw [z2_ne (by omega)]; assumption) | (rw [z2a, if_neg (fun z => e z.2)]; refine Eq.trans ?_ (congrArg eO (va_up_ne _ _ e)).symm; assumption)
  · rw [z2_ne (by omega)]; exact g5
  · rw [z2_ne (by omega)]; exact g6
  · rw [z2_ne (by omega)]; exact g10
theorem CR_ln {x : Nat} (hx : x < 16) (v : Option Nat) (hb : isB b) (h : CR b T I) : CR b (u_ln T (va_up T.2.1.1.2 x v)) (z2 I (b + 8) x (eO v)) := by
  have hge := xb_ge hb
  have h18 := xb_18 hb
  obtain ⟨g1, g2, ⟨g3, g4, g5, g6⟩, g7, g8, g9, g10⟩ := h
  refine ⟨fun y hy => ?_, fun y hy => ?_, ⟨fun j hj => ?_, fun j hj => ?_, ?_, ?_⟩, RowIs_to g7 (z2_ne (by omega)) (z2_ne (by omega)), RowIs_to g8 (z2_ne (by omega)) (z2_ne (by omega)), fun e => ⟨JouIs_to (g9 e).1 (z2_ne (by omega)) (z2_ne (by omega)), by rw [z2_ne (by omega)]; exact (g9 e).2⟩, ?_⟩
  · rw [z2_ne (by omega), z2_ne (by omega)]; exact g1 y hy
  · obtain ⟨e1, e2, e3, e4⟩ := g2 y hy
    by_cases e : y = x
    · subst e
      refine ⟨?_, ?_, ?_, ?_⟩ <;> first | (rw [z2_ne (by omega)]; assumption) | (rw [z2a, if_pos ⟨rfl, rfl⟩]; exact (va_up_self _ _ _).symm)
    · refine ⟨?_, ?_, ?_, ?_⟩ <;> first | (rw [z2_ne (by omega)]; assumption) | (rw [z2a, if_neg (fun z => e z.2)]; refine Eq.trans ?_ (va_up_ne _ _ e).symm; assumption)
  · have e1 := g3 j hj
    by_cases e : j = x
    · subst e
      first | (rw [z2_ne (by omega)]; assumption) | (rw [z2a, if_pos ⟨rfl, rfl⟩]; exact (congrArg eO (va_up_self _ _ _)).symm)
    · first | (rw [z2_ne (by omega)]; assumption) | (rw [z2a, if_neg (fun z => e z.2)]; refine Eq.trans ?_ (congrArg eO (va_up_ne _ _ e)).symm; assumption)
  · have e1 := g4 j hj
    by_cases e : j = x
    · subst e
      first | (rw [z2_ne (by omega)]; assumption) | (rw [z2a, if_pos ⟨rfl, rfl⟩]; exact (congrArg eO (va_up_self _ _ _)).symm)
    · first | (rw [z2_ne (by omega)]; assumption) | (rw [z2a, if_neg (fun z => e z.2)]; refine Eq.trans ?_ (congrArg eO (va_up_ne _ _ e)).symm; assumption)
  · rw [z2_ne (by omega)]; exact g5
  · rw [z2_ne (by omega)]; exact g6
  · rw [z2_ne (by omega)]; exact g10
theorem CR_gv {x : Nat} (hx : x < 8) (v : Option Nat) (hb : isB b) (h : CR b T I) : CR b (u_gv T (va_up T.2.1.2.1 x v)) (z2 I (b + 9) x (eO v)) := by
  have hge := xb_ge hb
  have h18 := xb_18 hb
  obtain ⟨g1, g2, ⟨g3, g4, g5, g6⟩, g7, g8, g9, g10⟩ := h
  refine ⟨fun y hy => ?_, fun y hy => ?_, ⟨fun j hj => ?_, fun j hj => ?_, ?_, ?_⟩, RowIs_to g7 (z2_ne (by omega)) (z2_ne (by omega)), RowIs_to g8 (z2_ne (by omega)) (z2_ne (by omega)), fun e => ⟨JouIs_to (g9 e).1 (z2_ne (by omega)) (z2_ne (by omega)), by rw [z2_ne (by omega)]; exact (g9 e).2⟩, ?_⟩
  · rw [z2_ne (by omega), z2_ne (by omega)]; exact g1 y hy
  · obtain ⟨e1, e2, e3, e4⟩ := g2 y hy
    by_cases e : y = x
    · subst e
      refine ⟨?_, ?_, ?_, ?_⟩ <;> first | (rw [z2_ne (by omega)]; assumption) | (rw [z2a, if_pos ⟨rfl, rfl⟩]; exact (va_up_self _ _ _).symm)
    · refine ⟨?_, ?_, ?_, ?_⟩ <;> first | (rw [z2_ne (by omega)]; assumption) | (rw [z2a, if_neg (fun z => e z.2)]; refine Eq.trans ?_ (va_up_ne _ _ e).symm; assumption)
  · have e1 := g3 j hj
    by_cases e : j = x
    · subst e
      first | (rw [z2_ne (by omega)]; assumption) | (rw [z2a, if_pos ⟨rfl, rfl⟩]; exact (congrArg eO (va_up_self _ _ _)).symm)
    · first | (rw [z2_ne (by omega)]; assumption) | (rw [z2a, if_neg (fun z => e z.2)]; refine Eq.trans ?_ (congrArg eO (va_up_ne _ _ e)).symm; assumption)
  · have e1 := g4 j hj
    by_cases e : j = x
    · subst e
      first | (rw [z2_ne (by omega)]; assumption) | (rw [z2a, if_pos ⟨rfl, rfl⟩]; exact (congrArg eO (va_up_self _ _ _)).symm)
    · first | (rw [z2_ne (by omega)]; assumption) | (rw [z2a, if_neg (fun z => e z.2)]; refine Eq.trans ?_ (congrArg eO (va_up_ne _ _ e)).symm; assumption)
  · rw [z2_ne (by omega)]; exact g5
  · rw [z2_ne (by omega)]; exact g6
  · rw [z2_ne (by omega)]; exact g10
theorem CR_pool (v : Int32) (hb : isB b) (h : CR b T I) : CR b (u_pool T v) (z2 I b 15 v) := by
  have hge := xb_ge hb
  have h18 := xb_18 hb
  obtain ⟨g1, g2, ⟨g3, g4, g5, g6⟩, g7, g8, g9, g10⟩ := h
  refine ⟨fun y hy => ?_, fun y hy => ?_, ⟨fun j hj => ?_, fun j hj => ?_, ?_, ?_⟩, RowIs_to g7 (z2_ne (by omega)) (z2_ne (by omega)), RowIs_to g8 (z2_ne (by omega)) (z2_ne (by omega)), fun e => ⟨JouIs_to (g9 e).1 (z2_ne (by omega)) (z2_ne (by omega)), fun j hj => by rw [z2a, if_neg (by omega)]; exact (g9 e).2 j hj⟩, ?_⟩
  · rw [z2_ne (by omega), z2_ne (by omega)]; exact g1 y hy
  · rw [z2_ne (by omega), z2_ne (by omega), z2_ne (by omega), z2_ne (by omega)]; exact g2 y hy
  · rw [z2_ne (by omega)]; exact g3 j hj
  · rw [z2_ne (by omega)]; exact g4 j hj
  · rw [z2a]; rw [if_pos ⟨rfl, rfl⟩]
  · rw [z2a]; rw [if_neg (by omega)]; exact g6
  · rw [z2_ne (by omega)]; exact g10
theorem CR_ld (v : Int32) (hb : isB b) (h : CR b T I) : CR b (u_ld T v) (z2 I b 16 v) := by
  have hge := xb_ge hb
  have h18 := xb_18 hb
  obtain ⟨g1, g2, ⟨g3, g4, g5, g6⟩, g7, g8, g9, g10⟩ := h
  refine ⟨fun y hy => ?_, fun y hy => ?_, ⟨fun j hj => ?_, fun j hj => ?_, ?_, ?_⟩, RowIs_to g7 (z2_ne (by omega)) (z2_ne (by omega)), RowIs_to g8 (z2_ne (by omega)) (z2_ne (by omega)), fun e => ⟨JouIs_to (g9 e).1 (z2_ne (by omega)) (z2_ne (by omega)), fun j hj => by rw [z2a, if_neg (by omega)]; exact (g9 e).2 j hj⟩, ?_⟩
  · rw [z2_ne (by omega), z2_ne (by omega)]; exact g1 y hy
  · rw [z2_ne (by omega), z2_ne (by omega), z2_ne (by omega), z2_ne (by omega)]; exact g2 y hy
  · rw [z2_ne (by omega)]; exact g3 j hj
  · rw [z2_ne (by omega)]; exact g4 j hj
  · rw [z2a]; rw [if_neg (by omega)]; exact g5
  · rw [z2a]; rw [if_pos ⟨rfl, rfl⟩]
  · rw [z2_ne (by omega)]; exact g10
theorem CR_st {x : Nat} (hx : x < 12) {v : Nat} (hv : v ≠ 3) (hb : isB b) (h : CR b T I) : CR b (u_st T (va_up T.1.1.1.1 x v)) (z2 I (b + 1) x (nI v)) := by
  have hge := xb_ge hb
  have h18 := xb_18 hb
  obtain ⟨g1, g2, ⟨g3, g4, g5, g6⟩, g7, g8, g9, g10⟩ := h
  refine ⟨fun y hy => ?_, fun y hy => ?_, ⟨fun j hj => ?_, fun j hj => ?_, ?_, ?_⟩, RowIs_to g7 (z2_ne (by omega)) (z2_ne (by omega)), RowIs_to g8 (z2_ne (by omega)) (z2_ne (by omega)), fun e => ⟨JouIs_to (g9 e).1 (z2_ne (by omega)) (z2_ne (by omega)), by rw [z2_ne (by omega)]; exact (g9 e).2⟩, ?_⟩
  · rw [z2_ne (show b + 2 ≠ b + 1 by omega), z2a]
    show _ = nI (va_up T.1.1.1.1 x v y) ∧ (va_up T.1.1.1.1 x v y = 3 → _)
    unfold va_up
    by_cases e : y = x
    · rw [if_pos ⟨rfl, e⟩, if_pos e]
      exact ⟨rfl, fun z => absurd z hv⟩
    · rw [if_neg (fun z => e z.2), if_neg e]
      exact g1 y hy
  · rw [z2_ne (by omega), z2_ne (by omega), z2_ne (by omega), z2_ne (by omega)]; exact g2 y hy
  · rw [z2_ne (by omega)]; exact g3 j hj
  · rw [z2_ne (by omega)]; exact g4 j hj
  · rw [z2_ne (by omega)]; exact g5
  · rw [z2_ne (by omega)]; exact g6
  · rw [z2_ne (by omega)]; exact g10
theorem CR_bind {x : Nat} (hx : x < 12) (v : Nat) (hb : isB b) (h : CR b T I) : CR b (u_by (u_st T (va_up T.1.1.1.1 x 3)) (va_up T.1.1.1.2 x v)) (z2 (z2 I (b + 1) x (nI 3)) (b + 2) x (nI v)) := by
  have hge := xb_ge hb
  have h18 := xb_18 hb
  obtain ⟨g1, g2, ⟨g3, g4, g5, g6⟩, g7, g8, g9, g10⟩ := h
  have hf : ∀ q, q ≠ b + 1 → q ≠ b + 2 → z2 (z2 I (b + 1) x (nI 3)) (b + 2) x (nI v) q = I q := fun q h1 h2 => by rw [z2_ne h2, z2_ne h1]
  refine ⟨fun y hy => ?_, fun y hy => ?_, ⟨fun j hj => ?_, fun j hj => ?_, ?_, ?_⟩, RowIs_to g7 (hf _ (by omega) (by omega)) (hf _ (by omega) (by omega)), RowIs_to g8 (hf _ (by omega) (by omega)) (hf _ (by omega) (by omega)), fun e => ⟨JouIs_to (g9 e).1 (hf _ (by omega) (by omega)) (hf _ (by omega) (by omega)), by rw [hf _ (by omega) (by omega)]; exact (g9 e).2⟩, ?_⟩
  · rw [z2_ne (show b + 1 ≠ b + 2 by omega), z2a, z2a]
    show _ = nI (va_up T.1.1.1.1 x 3 y) ∧ (va_up T.1.1.1.1 x 3 y = 3 → _ = nI (va_up T.1.1.1.2 x v y))
    unfold va_up
    by_cases e : y = x
    · rw [if_pos ⟨rfl, e⟩, if_pos e, if_pos ⟨rfl, e⟩, if_pos e]
      exact ⟨rfl, fun _ => rfl⟩
    · rw [if_neg (fun z => e z.2), if_neg e, if_neg (fun z => e z.2), if_neg e, z2_ne (by omega)]
      exact g1 y hy
  · rw [hf _ (by omega) (by omega), hf _ (by omega) (by omega), hf _ (by omega) (by omega), hf _ (by omega) (by omega)]; exact g2 y hy
  · rw [hf _ (by omega) (by omega)]; exact g3 j hj
  · rw [hf _ (by omega) (by omega)]; exact g4 j hj
  · rw [hf _ (by omega) (by omega)]; exact g5
  · rw [hf _ (by omega) (by omega)]; exact g6
  · rw [hf _ (by omega) (by omega)]; exact g10
theorem CR_row {l : List Nat} (hb : isB b) (h : CR b T I) (hE : Eo [b + 10, b + 10 + 1] I J) (hl : RowIs J (b + 10) l) : CR b (u_row T l) J := by
  have hge := xb_ge hb
  have h18 := xb_18 hb
  have hf : ∀ q, q ≠ b + 10 → q ≠ b + 11 → J q = I q := fun q h1 h2 => hE q (by simp only [List.mem_cons, List.not_mem_nil, or_false]; omega)
  obtain ⟨g1, g2, ⟨g3, g4, g5, g6⟩, g7, g8, g9, g10⟩ := h
  refine ⟨fun y hy => ?_, fun y hy => ?_, ⟨fun j hj => ?_, fun j hj => ?_, ?_, ?_⟩, hl, RowIs_to g8 (hf _ (by omega) (by omega)) (hf _ (by omega) (by omega)), fun e => ⟨JouIs_to (g9 e).1 (hf _ (by omega) (by omega)) (hf _ (by omega) (by omega)), by rw [hf _ (by omega) (by omega)]; exact (g9 e).2⟩, ?_⟩
  · rw [hf _ (by omega) (by omega), hf _ (by omega) (by omega)]; exact g1 y hy
  · rw [hf _ (by omega) (by omega), hf _ (by omega) (by omega), hf _ (by omega) (by omega), hf _ (by omega) (by omega)]; exact g2 y hy
  · rw [hf _ (by omega) (by omega)]; exact g3 j hj
  · rw [hf _ (by omega) (by omega)]; exact g4 j hj
  · rw [hf _ (by omega) (by omega)]; exact g5
  · rw [hf _ (by omega) (by omega)]; exact g6
  · rw [hf _ (by omega) (by omega)]; exact g10
theorem CR_bnd {l : List Nat} {n : Nat} (hb : isB b) (h : CR b T I) (hE : Eo [b + 14, b + 14 + 1] I J) (hl : RowIs J (b + 14) l) : CR b (u_cn (u_bnd T l) n) J := by
  have hge := xb_ge hb
  have h18 := xb_18 hb
  have hf : ∀ q, q ≠ b + 14 → q ≠ b + 15 → J q = I q := fun q h1 h2 => hE q (by simp only [List.mem_cons, List.not_mem_nil, or_false]; omega)
  obtain ⟨g1, g2, ⟨g3, g4, g5, g6⟩, g7, g8, g9, g10⟩ := h
  refine ⟨fun y hy => ?_, fun y hy => ?_, ⟨fun j hj => ?_, fun j hj => ?_, ?_, ?_⟩, RowIs_to g7 (hf _ (by omega) (by omega)) (hf _ (by omega) (by omega)), hl, fun e => ⟨JouIs_to (g9 e).1 (hf _ (by omega) (by omega)) (hf _ (by omega) (by omega)), by rw [hf _ (by omega) (by omega)]; exact (g9 e).2⟩, ?_⟩
  · rw [hf _ (by omega) (by omega), hf _ (by omega) (by omega)]; exact g1 y hy
  · rw [hf _ (by omega) (by omega), hf _ (by omega) (by omega), hf _ (by omega) (by omega), hf _ (by omega) (by omega)]; exact g2 y hy
  · rw [hf _ (by omega) (by omega)]; exact g3 j hj
  · rw [hf _ (by omega) (by omega)]; exact g4 j hj
  · rw [hf _ (by omega) (by omega)]; exact g5
  · rw [hf _ (by omega) (by omega)]; exact g6
  · rw [hf _ (by omega) (by omega)]; exact g10
end CRS
section JOU
variable {ρ : Nat × (Nat → Int32)} {d : Nat} {c : Nat × Nat} {R : Nat → Nat → Option Nat} {I J : Nat → Nat → Int32} {L : Nat → Nat → Int64} {b : Nat} {T : TT}
theorem pl_s {nx k : Nat} (hn : nx < 50) (hk : k + 1 < 50) : pl (if nx + 1 = 50 then 0 else nx + 1) (k + 1) = pl nx k := by
  unfold pl
  split <;> omega
theorem pl_0 {nx : Nat} (hn : nx < 50) : pl (if nx + 1 = 50 then 0 else nx + 1) 0 = nx := by
  unfold pl
  split <;> omega
theorem pl_lt (nx k : Nat) : pl nx k < 50 := Nat.mod_lt _ (by decide)
theorem pl_ne {nx k : Nat} (hn : nx < 50) (hk : k + 1 < 50) : pl nx k ≠ nx := by
  unfold pl
  omega
theorem Mat_min_e (a b : Nat) (ha : a < 2 ^ 31) (hb : b < 2 ^ 31) : EV ρ (d + 1) 233 0 [.int (nI a), .int (nI b)] [] (mk c R I L) = some ([.int (nI (min a b))], mk c R I L) := by
  rw [bMat_min_0]
  by_cases e : b < a
  · rw [if_pos (nI_lt e ha), Nat.min_eq_right (by omega)]
  · rw [if_neg (nI_nlt (by omega) hb), Nat.min_eq_left (by omega)]
set_option maxHeartbeats 1000000 in
theorem Jou_write_8 {l : List (Int32 × Int32 × Int32)} (h : JouIs I l) (x y z : Int32) : ∃ J, EV ρ (d + 2) 117 0 [.ref 8, .int x, .int y, .int z, zU] [] (mk c R I L) = some ([], mk c R J L) ∧ JouIs J (((x, y, z) :: l).take 50) ∧ Eo [8, 9] I J := by
  obtain ⟨h1, h2, h3, nx, h4, h5, h6⟩ := h
  have o8 : okc 8 1 = true := rfl
  have a9 : oka 9 20 150 = true := rfl
  have f8 : FC 8 1 = some 9 := rfl
  rw [bJou_write_0, zob o8, h1, if_neg (by decide), zob o8, zob o8, f8, zrs, zar a9, h5, pk_mul, zidx_n (by omega) (by decide), bJou_write_24, zob o8, f8, zrs, zar a9, nI_add, zidx_n (by omega) (by decide), bJou_write_34, zob o8, f8, zrs, zar a9, nI_add, zidx_n (by omega) (by decide), bJou_write_44, zob o8, zob o8]
  have e2 : ∀ (K : Nat → Nat → Int32) (i j k : Nat) (u v w : Int32), z2 (z2 (z2 K 9 i u) 9 j v) 9 k w 8 = K 8 := fun K i j k u v w => by rw [z2_ne (by decide), z2_ne (by decide), z2_ne (by decide)]
  rw [e2, h5, h1, nI_add]
  generalize hK : z2 (z2 (z2 I 9 (nx * 3) x) 9 (nx * 3 + 1) y) 9 (nx * 3 + 2) z = K
  have k8 : K 8 = I 8 := by rw [← hK, e2]
  have step : (if nI (nx + 1) = nI 50 then (zobj zC (mk c R K L) 8 1 (EV ρ (d + 2) 117 71 [.ref 8, zU, zU, zU, zU] [] (mk c R (z2 K 8 2 (nI 0)) L))) else (zobj zC (mk c R K L) 8 1 (zobj zC (mk c R K L) 8 1 (EV ρ (d + 2) 117 71 [.ref 8, zU, zU, zU, zU] [] (mk c R (z2 K 8 2 (nI (nx + 1))) L))))) = EV ρ (d + 2) 117 71 [.ref 8, zU, zU, zU, zU] [] (mk c R (z2 K 8 2 (nI (if nx + 1 = 50 then 0 else nx + 1))) L) := by
    by_cases e : nx + 1 = 50
    · rw [if_pos (by rw [e]), zob o8, if_pos e]
    · rw [if_neg (by rw [nI_eq (by omega) (by decide)]; exact e), zob o8, zob o8, if_neg e]
  have k3 : z2 K 8 2 (nI (if nx + 1 = 50 then 0 else nx + 1)) 8 3 = nI l.length := by rw [z2a, if_neg (by omega), k8]; exact h3
  have k0 : z2 K 8 2 (nI (if nx + 1 = 50 then 0 else nx + 1)) 8 0 = nI 50 := by rw [z2a, if_neg (by omega), k8]; exact h1
  have fin : EV ρ (d + 2) 117 71 [.ref 8, zU, zU, zU, zU] [] (mk c R (z2 K 8 2 (nI (if nx + 1 = 50 then 0 else nx + 1))) L) = some ([], mk c R (z2 (z2 K 8 2 (nI (if nx + 1 = 50 then 0 else nx + 1))) 8 3 (nI (min (l.length + 1) 50))) L) := by
    rw [bJou_write_71, zob o8, zob o8, k3, k0, nI_add, Mat_min_e _ _ (by omega) (by omega), zci, bJou_write_85, zob o8, bJou_write_88]
  refine ⟨z2 (z2 K 8 2 (nI (if nx + 1 = 50 then 0 else nx + 1))) 8 3 (nI (min (l.length + 1) 50)), ?_, ?_, ?_⟩
  · exact step.trans fin
  · have hlen : (((x, y, z) :: l).take 50).length = min (l.length + 1) 50 := by rw [List.length_take, List.length_cons, Nat.min_comm]
    have c9 : ∀ j, z2 (z2 K 8 2 (nI (if nx + 1 = 50 then 0 else nx + 1))) 8 3 (nI (min (l.length + 1) 50)) 9 j = K 9 j := fun j => by rw [z2_ne (by decide), z2_ne (by decide)]
    refine ⟨?_, by rw [hlen]; omega, ?_, (if nx + 1 = 50 then 0 else nx + 1), by split <;> omega, ?_, fun k e hk => ?_⟩
    · rw [z2a, if_neg (by omega)]; exact k0
    · rw [z2a, if_pos ⟨rfl, rfl⟩, hlen]
    · rw [z2a, if_neg (by omega), z2a, if_pos ⟨rfl, rfl⟩]
    · rw [c9, c9, c9, ← hK]
      have hkl : k < 50 := by
        have := (List.getElem?_eq_some_iff.mp hk).1
        rw [hlen] at this
        omega
      cases k with
      | zero =>
        simp at hk
        subst hk
        rw [pl_0 h4]
        refine ⟨?_, ?_, ?_⟩
        · rw [z2a, if_neg (by omega), z2a, if_neg (by omega), z2a, if_pos ⟨rfl, by omega⟩]
        · rw [z2a, if_neg (by omega), z2a, if_pos ⟨rfl, by omega⟩]
        · rw [z2a, if_pos ⟨rfl, by omega⟩]
      | succ k =>
        rw [List.getElem?_take_of_lt (by omega), List.getElem?_cons_succ] at hk
        have hg := h6 k e hk
        have hne := pl_ne h4 hkl
        rw [pl_s h4 hkl]
        refine ⟨?_, ?_, ?_⟩
        · rw [z2a, if_neg (by omega), z2a, if_neg (by omega), z2a, if_neg (by omega)]; exact hg.1
        · rw [z2a, if_neg (by omega), z2a, if_neg (by omega), z2a, if_neg (by omega)]; exact hg.2.1
        · rw [z2a, if_neg (by omega), z2a, if_neg (by omega), z2a, if_neg (by omega)]; exact hg.2.2
  · have h0 : Eo [8, 9] I K := by
      rw [← hK]
      exact ((Eo.rf.z2 (by simp)).z2 (by simp)).z2 (by simp)
    exact (h0.z2 (by simp)).z2 (by simp)
theorem Jou_write_0 (h : I 104 0 = nI 0) (x y z : Int32) : EV ρ (d + 2) 117 0 [.ref 104, .int x, .int y, .int z, zU] [] (mk c R I L) = some ([], mk c R I L) := by
  rw [bJou_write_0, zob rfl, h, if_pos (by decide)]
/-- what the bench's methods leave as it is -/
def FB (b : Nat) (I J : Nat → Nat → Int32) : Prop := ∀ q, ¬ (b ≤ q ∧ q ≤ b + 17) → ¬ (b = 86 ∧ (q = 8 ∨ q = 9)) → J q = I q
theorem FB.rf : FB b I I := fun _ _ _ => rfl
theorem FB.tr {K : Nat → Nat → Int32} (h : FB b I J) (g : FB b J K) : FB b I K := fun q h1 h2 => (g q h1 h2).trans (h q h1 h2)
theorem FB.zk (h : FB b I J) {k j : Nat} {v : Int32} (hk : k ≤ 17) : FB b I (z2 J (b + k) j v) := fun q h1 h2 => by
  rw [z2_ne (by omega)]
  exact h q h1 h2
theorem FB.z0 (h : FB b I J) {j : Nat} {v : Int32} : FB b I (z2 J b j v) := fun q h1 h2 => by
  rw [z2_ne (by omega)]
  exact h q h1 h2
theorem FB.eo (h : FB b I J) {K : Nat → Nat → Int32} {k : Nat} (hk : k ≤ 16) (hE : Eo [b + k, b + k + 1] J K) : FB b I K := fun q h1 h2 => by
  rw [hE q (by simp only [List.mem_cons, List.not_mem_nil, or_false]; omega)]
  exact h q h1 h2
/-- a row of the log, or none -/
theorem Ben_log (hb : isB b) (h : CR b T I) (x y z : Int32) : ∃ J, EV ρ (d + 2) 117 0 [.ref (jo b), .int x, .int y, .int z, zU] [] (mk c R I L) = some ([], mk c R J L) ∧ CR b (tLog T x y z) J ∧ FB b I J ∧ (∀ q, q ≠ 8 → q ≠ 9 → J q = I q) := by
  have hge := xb_ge hb
  have h18 := xb_18 hb
  by_cases e : b = 86
  · have hj : jo b = 8 := by unfold jo; rw [if_pos e]
    obtain ⟨J, g1, g2, g3⟩ := Jou_write_8 (ρ := ρ) (d := d) (c := c) (R := R) (L := L) (h.2.2.2.2.2.1 e).1 x y z
    have hf : ∀ q, q ≠ 8 → q ≠ 9 → J q = I q := fun q h1 h2 => g3 q (by simp only [List.mem_cons, List.not_mem_nil, or_false]; omega)
    rw [hj]
    refine ⟨J, g1, ?_, fun q h1 h2 => hf q (by omega) (by omega), hf⟩
    obtain ⟨q1, q2, ⟨q3, q4, q5, q6⟩, q7, q8, q9, q10⟩ := h
    refine ⟨fun y hy => ?_, fun y hy => ?_, ⟨fun j hj => ?_, fun j hj => ?_, ?_, ?_⟩, RowIs_to q7 (hf _ (by omega) (by omega)) (hf _ (by omega) (by omega)), RowIs_to q8 (hf _ (by omega) (by omega)) (hf _ (by omega) (by omega)), fun e => ⟨g2, by rw [hf _ (by omega) (by omega)]; exact (q9 e).2⟩, ?_⟩
    · rw [hf _ (by omega) (by omega), hf _ (by omega) (by omega)]; exact q1 y hy
    · rw [hf _ (by omega) (by omega), hf _ (by omega) (by omega), hf _ (by omega) (by omega), hf _ (by omega) (by omega)]; exact q2 y hy
    · rw [hf _ (by omega) (by omega)]; exact q3 j hj
    · rw [hf _ (by omega) (by omega)]; exact q4 j hj
    · rw [hf _ (by omega) (by omega)]; exact q5
    · rw [hf _ (by omega) (by omega)]; exact q6
    · rw [hf _ (by omega) (by omega)]; exact q10
  · have hj : jo b = 104 := by unfold jo; rw [if_neg e]
    rw [hj, Jou_write_0 h.2.2.2.2.2.2]
    exact ⟨I, rfl, ⟨h.1, h.2.1, h.2.2.1, h.2.2.2.1, h.2.2.2.2.1, fun z => absurd z e, h.2.2.2.2.2.2⟩, FB.rf, fun _ _ _ => rfl⟩
end JOU
