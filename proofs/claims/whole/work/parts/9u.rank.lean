-- RANKS: the lines of drivers
def sv (s : Nat → Option Nat) (v : Nat) : Nat := (s v).getD 0
/-- where one of score z comes in -/
def insA (s : Nat → Option Nat) (z : Nat) (l : List Nat) : Nat → Nat
  | 0 => 0
  | a + 1 => if sv s (l.getD a 0) < z then insA s z l a else a + 1
def insR (s : Nat → Option Nat) (r : Nat) (l : List Nat) : List Nat := l.take (insA s (sv s r) l l.length) ++ r :: l.drop (insA s (sv s r) l l.length)
def rkN (s : Nat → Option Nat) : Nat → List Nat
  | 0 => []
  | m + 1 => (match s m with
    | none => rkN s m
    | some _ => insR s m (rkN s m))
def AH (s : Nat → Option Nat) (v w : Nat) : Prop := ∃ a b, s v = some a ∧ s w = some b ∧ (b < a ∨ b = a ∧ v < w)
theorem insA_i (s : Nat → Option Nat) (z : Nat) (l : List Nat) : ∀ a, insA s z l a ≤ a ∧ (∀ k, insA s z l a ≤ k → k < a → sv s (l.getD k 0) < z) ∧ (insA s z l a = 0 ∨ z ≤ sv s (l.getD (insA s z l a - 1) 0)) := by
  intro a
  induction a with
  | zero => exact ⟨Nat.le_refl _, fun k h1 h2 => absurd h2 (Nat.not_lt_zero _), .inl rfl⟩
  | succ a ih =>
    unfold insA
    by_cases h : sv s (l.getD a 0) < z
    · rw [if_pos h]
      obtain ⟨h1, h2, h3⟩ := ih
      refine ⟨by omega, fun k g1 g2 => ?_, h3⟩
      by_cases ek : k = a
      · rw [ek]; exact h
      · exact h2 k g1 (by omega)
    · rw [if_neg h]
      exact ⟨Nat.le_refl _, fun k g1 g2 => by omega, .inr (by show z ≤ sv s (l.getD a 0); omega)⟩
theorem insR_m {s : Nat → Option Nat} {r v : Nat} {l : List Nat} : v ∈ insR s r l ↔ v = r ∨ v ∈ l := by
  unfold insR
  generalize insA s (sv s r) l l.length = a
  rw [List.mem_append, List.mem_cons]
  have h : v ∈ l ↔ v ∈ l.take a ∨ v ∈ l.drop a := by rw [← List.mem_append, List.take_append_drop]
  rw [h]
  constructor
  · rintro (h | h | h)
    · exact .inr (.inl h)
    · exact .inl h
    · exact .inr (.inr h)
  · rintro (h | h | h)
    · exact .inr (.inl h)
    · exact .inl h
    · exact .inr (.inr h)
theorem insR_l {s : Nat → Option Nat} {r : Nat} {l : List Nat} : (insR s r l).length = l.length + 1 := by
  unfold insR
  have h := (insA_i s (sv s r) l l.length).1
  rw [List.length_append, List.length_cons, List.length_take, List.length_drop]
  omega
theorem rkN_m {s : Nat → Option Nat} {v : Nat} : ∀ m, v ∈ rkN s m ↔ v < m ∧ s v ≠ none := by
  intro m
  induction m with
  | zero => exact ⟨fun h => (by cases h), fun h => absurd h.1 (Nat.not_lt_zero _)⟩
  | succ m ih =>
    unfold rkN
    cases e : s m with
    | none =>
      simp only
      rw [ih]
      refine ⟨fun h => ⟨by omega, h.2⟩, fun h => ⟨?_, h.2⟩⟩
      by_cases ev : v = m
      · rw [ev, e] at h; exact absurd rfl h.2
      · omega
    | some z =>
      simp only
      rw [insR_m, ih]
      constructor
      · rintro (h | h)
        · rw [h]; exact ⟨by omega, by rw [e]; exact fun y => by cases y⟩
        · exact ⟨by omega, h.2⟩
      · intro h
        by_cases ev : v = m
        · exact .inl ev
        · exact .inr ⟨by omega, h.2⟩
theorem rkN_l (s : Nat → Option Nat) : ∀ m, (rkN s m).length ≤ m := by
  intro m
  induction m with
  | zero => exact Nat.le_refl _
  | succ m ih =>
    unfold rkN
    cases e : s m with
    | none => simp only; omega
    | some z => simp only; rw [insR_l]; omega
theorem rkN_p (s : Nat → Option Nat) : ∀ m, (rkN s m).Pairwise (AH s) := by
  intro m
  induction m with
  | zero => exact List.Pairwise.nil
  | succ m ih =>
    unfold rkN
    cases e : s m with
    | none => exact ih
    | some z =>
      simp only
      have hm : ∀ v ∈ rkN s m, v < m ∧ ∃ b, s v = some b := fun v hv => by
        obtain ⟨h1, h2⟩ := (rkN_m m).mp hv
        cases e2 : s v with
        | none => exact absurd e2 h2
        | some b => exact ⟨h1, b, rfl⟩
      generalize rkN s m = l at ih hm
      unfold insR
      have hz : sv s m = z := by unfold sv; rw [e]; rfl
      obtain ⟨h1, h2, h3⟩ := insA_i s (sv s m) l l.length
      generalize insA s (sv s m) l l.length = a at h1 h2 h3
      rw [hz] at h2 h3
      have ihp := ih
      rw [← List.take_append_drop a l, List.pairwise_append] at ihp
      obtain ⟨p1, p2, p3⟩ := ihp
      have hlow : ∀ v ∈ l.take a, z ≤ sv s v := fun v hv => by
        obtain ⟨k, hk⟩ := List.mem_iff_getElem?.mp hv
        have hka := (List.getElem?_eq_some_iff.mp hk).1
        rw [List.length_take] at hka
        rw [List.getElem?_take_of_lt (by omega)] at hk
        rcases h3 with g | g
        · omega
        · by_cases ek : k = a - 1
          · subst ek
            rw [List.getD_eq_getElem?_getD, hk] at g
            exact g
          · have hk2 : l[a - 1]? = some l[a - 1] := List.getElem?_eq_getElem (by omega)
            rw [List.getD_eq_getElem?_getD, hk2] at g
            have hkv : l[k] = v := by have := List.getElem?_eq_getElem (l := l) (i := k) (by omega); rw [this] at hk; exact Option.some.inj hk
            have hpw := (List.pairwise_iff_getElem.mp ih) k (a - 1) (by omega) (by omega) (by omega)
            obtain ⟨x, y, e1, e2, e3⟩ := hpw
            rw [hkv] at e1
            have g1 : sv s v = x := by unfold sv; rw [e1]; rfl
            have g2 : sv s l[a - 1] = y := by unfold sv; rw [e2]; rfl
            have g' : z ≤ sv s l[a - 1] := g
            omega
      have hhigh : ∀ v ∈ l.drop a, sv s v < z := fun v hv => by
        obtain ⟨k, hk⟩ := List.mem_iff_getElem?.mp hv
        rw [List.getElem?_drop] at hk
        have hkl := (List.getElem?_eq_some_iff.mp hk).1
        have := h2 (a + k) (by omega) hkl
        rw [List.getD_eq_getElem?_getD, hk] at this
        exact this
      rw [List.pairwise_append, List.pairwise_cons]
      refine ⟨p1, ⟨fun v hv => ?_, p2⟩, fun x hx y hy => ?_⟩
      · obtain ⟨g1, b, g2⟩ := hm v (List.mem_of_mem_drop hv)
        have := hhigh v hv
        unfold sv at this
        rw [g2] at this
        exact ⟨z, b, e, g2, .inl this⟩
      · rcases List.mem_cons.mp hy with g | g
        · subst g
          obtain ⟨g1, b, g2⟩ := hm x (List.mem_of_mem_take hx)
          have := hlow x hx
          unfold sv at this
          rw [g2] at this
          have this' : z ≤ b := this
          exact ⟨b, z, g2, e, by omega⟩
        · exact p3 x hx y g
section CRANK
variable {ρ : Nat × (Nat → Int32)} {d : Nat} {c : Nat × Nat} {R : Nat → Nat → Option Nat} {I J : Nat → Nat → Int32} {L : Nat → Nat → Int64} {p x r : Nat} {s : Nat → Option Nat} {l : List Nat} {z : Nat}
theorem gD {k y : Nat} (h : l[k]? = some y) : l.getD k 0 = y := by rw [List.getD_eq_getElem?_getD, h]; rfl
theorem sc_loop (hp : isP p) (hx : x < 12) (hr : r < 8) (hl : l.length < 8) (hz : z < 2 ^ 30) (hm : ∀ v ∈ l, v < 8 ∧ ∃ b, s v = some b ∧ b < 2 ^ 30) : ∀ (a : Nat) (I : Nat → Nat → Int32), a ≤ l.length → (∀ v ∈ l, I (p + 16 + v) x = eO (s v)) → (∀ k y, l[k]? = some y → k < a → I (p + 25 + x) k = nI y) → (∀ k y, l[k]? = some y → a ≤ k → I (p + 25 + x) (k + 1) = nI y) →
    ∃ J, EV ρ (d + 1) 132 34 [.ref p, .int (nI r), .int (nI x), .int (nI z), .int (nI a)] [] (mk c R I L) = EV ρ (d + 1) 132 97 [.ref p, zU, .int (nI x), zU, zU] [] (mk c R J L) ∧ (∀ k y, l[k]? = some y → k < insA s z l a → J (p + 25 + x) k = nI y) ∧ J (p + 25 + x) (insA s z l a) = nI r ∧ (∀ k y, l[k]? = some y → insA s z l a ≤ k → J (p + 25 + x) (k + 1) = nI y) ∧ ∀ q, q ≠ p + 25 + x → J q = I q := by
  have hpg := isP_g hp
  have hk := xp_k hp hx
  intro a
  induction a with
  | zero =>
    intro I ha h0 h1 h2
    rw [bPla_putScore_34, if_pos (by decide), zob (xp_o hp), xp_F18 hp, zrs, zar (xp_a24 hp), zidx_n hx (by decide), hk.1, zrs, zar hk.2, zidx_n (by omega) (by decide)]
    refine ⟨_, rfl, fun k y _ hk => absurd hk (Nat.not_lt_zero _), z2_at _ _ _ _, fun k y hy _ => ?_, fun q hq => z2_ne hq⟩
    have e0 : insA s z l 0 = 0 := rfl
    rw [z2a, if_neg (by omega)]
    exact h2 k y hy (Nat.zero_le _)
  | succ a ih =>
    intro I ha h0 h1 h2
    obtain ⟨w, hw⟩ : ∃ w, l[a]? = some w := ⟨l[a], List.getElem?_eq_getElem (by omega)⟩
    obtain ⟨w8, b, hb, hb2⟩ := hm w (List.mem_of_getElem? hw)
    have hs := xp_s hp w8
    have hI : I (p + 16 + w) x = nI b := by rw [h0 w (List.mem_of_getElem? hw), hb]; rfl
    have hsv : sv s (l.getD a 0) = b := by rw [gD hw]; unfold sv; rw [hb]; rfl
    rw [bPla_putScore_34, if_neg (nI_nle (by omega) (by omega)), zob (xp_o hp), zob (xp_o hp), xp_F18 hp, zrs, zar (xp_a24 hp), zidx_n hx (by decide), hk.1, zrs, pk_sub (by omega), zar hk.2, zidx_n (by omega) (by decide), xp_F17 hp, zrs, show a + 1 - 1 = a from by omega, h1 a w hw (by omega), zar (xp_a15 hp), zidx_n w8 (by decide), hs.1, zrs, zar hs.2, zidx_n hx (by decide), hI]
    unfold insA
    by_cases c1 : b < z
    · rw [if_neg (nI_ge c1 (by omega)), hsv, if_pos c1, zob (xp_o hp), zrs, zar (xp_a24 hp), zidx_n hx (by decide), zob (xp_o hp), zrs, zar (xp_a24 hp), zidx_n hx (by decide), hk.1, zrs, zar hk.2, zidx_n (by omega) (by decide), zrs, zar hk.2, zidx_n (by omega) (by decide), h1 a w hw (by omega), bPla_putScore_81, show nI (a + 1) + -1 = nI a from by rw [show (-1 : Int32) = -nI 1 from by decide, ← Int32.sub_eq_add_neg, pk_sub (by omega)]; rfl]
      obtain ⟨J, g1, g2, g3, g4, g5⟩ := ih (z2 I (p + 25 + x) (a + 1) (nI w)) (by omega) (fun v hv => by have := (hm v hv).1; rw [z2_ne (by omega)]; exact h0 v hv) (fun k y hy hk => by rw [z2a, if_neg (by omega)]; exact h1 k y hy (by omega)) (fun k y hy hk => by
        by_cases ek : k = a
        · subst ek
          rw [hw] at hy
          cases hy
          rw [z2_at]
        · rw [z2a, if_neg (by omega)]; exact h2 k y hy (by omega))
      exact ⟨J, g1, g2, g3, g4, fun q hq => by rw [g5 q hq, z2_ne hq]⟩
    · rw [if_pos (nI_le (by omega) (by omega)), hsv, if_neg c1, zob (xp_o hp), zrs, zar (xp_a24 hp), zidx_n hx (by decide), hk.1, zrs, zar hk.2, zidx_n (by omega) (by decide)]
      refine ⟨_, rfl, fun k y hy hk => ?_, z2_at _ _ _ _, fun k y hy hk => ?_, fun q hq => z2_ne hq⟩
      · rw [z2a, if_neg (by omega)]; exact h1 k y hy hk
      · rw [z2a, if_neg (by omega)]; exact h2 k y hy hk
/-- a score is put -/
theorem Pla_score_e (hp : isP p) (hx : x < 12) (hr : r < 8) (hs : ∀ v b, s v = some b → b < 2 ^ 30) (h0 : ∀ v, v < r → I (p + 16 + v) x = eO (s v)) (h1 : ∀ k y, (rkN s r)[k]? = some y → I (p + 25 + x) k = nI y) (h2 : I (p + 37) x = nI (rkN s r).length) : ∃ J, EV ρ (d + 1) 132 0 [.ref p, .int (nI r), .int (nI x), .int (eO (s r)), zU] [] (mk c R I L) = some ([], mk c R J L) ∧ (∀ v, v < r + 1 → J (p + 16 + v) x = eO (s v)) ∧ (∀ k y, (rkN s (r + 1))[k]? = some y → J (p + 25 + x) k = nI y) ∧ J (p + 37) x = nI (rkN s (r + 1)).length ∧ ∀ q j, ¬ (q = p + 16 + r ∧ j = x) → q ≠ p + 25 + x → ¬ (q = p + 37 ∧ j = x) → J q j = I q j := by
  have hpg := isP_g hp
  have hlr := rkN_l s r
  have hss := xp_s hp hr
  have hm := fun v => (rkN_m (s := s) (v := v) r).mp
  have hr1 : rkN s (r + 1) = (match s r with
    | none => rkN s r
    | some _ => insR s r (rkN s r)) := rfl
  rw [bPla_putScore_0, zob (xp_o hp), xp_F17 hp, zrs, zar (xp_a15 hp), zidx_n hr (by decide), hss.1, zrs, zar hss.2, zidx_n hx (by decide), bPla_putScore_9, hr1]
  have hrow : ∀ v, v < r + 1 → z2 I (p + 16 + r) x (eO (s r)) (p + 16 + v) x = eO (s v) := fun v hv => by
    by_cases ev : v = r
    · rw [ev, z2_at]
    · rw [z2_ne (by omega)]; exact h0 v (by omega)
  cases e : s r with
  | none =>
    rw [e] at hrow
    rw [eO_n] at hrow ⊢
    rw [if_pos rfl]
    exact ⟨_, rfl, hrow, fun k y hy => by rw [z2_ne (by omega)]; exact h1 k y hy, by rw [z2_ne (by omega)]; exact h2, fun q j y1 _ _ => by rw [z2a, if_neg y1]⟩
  | some z =>
    simp only
    have hz := hs r z e
    rw [e] at hrow
    rw [eO_s] at hrow ⊢
    rw [if_neg (nI_m1 (by omega)), zob (xp_o hp), xp_F19 hp, zrs, zar (xp_a37 hp), zidx_n hx (by decide), z2_ne (by omega), h2, if_pos (nI_lt (by omega) (by decide)), zob (xp_o hp), zrs, zar (xp_a37 hp), zidx_n hx (by decide)]
    obtain ⟨J, g1, g2, g3, g4, g5⟩ := sc_loop (ρ := ρ) (d := d) (c := c) (R := R) (L := L) (z := z) (s := s) (l := rkN s r) hp hx hr (by omega) hz (fun v hv => by
      obtain ⟨y1, y2⟩ := hm v hv
      cases e2 : s v with
      | none => exact absurd e2 y2
      | some b => exact ⟨by omega, b, rfl, hs v b e2⟩) (rkN s r).length (z2 I (p + 16 + r) x (nI z)) (Nat.le_refl _) (fun v hv => hrow v (by have := (hm v hv).1; omega)) (fun k y hy _ => by rw [z2_ne (by omega)]; exact h1 k y hy) (fun k y hy hk => by have := (List.getElem?_eq_some_iff.mp hy).1; omega)
    rw [z2_ne (show p + 37 ≠ p + 16 + r from by omega), h2, g1, bPla_putScore_97, zob (xp_o hp), xp_F19 hp, zrs, zar (xp_a37 hp), zidx_n hx (by decide), zar (xp_a37 hp), zidx_n hx (by decide), g5 (p + 37) (by omega), z2_ne (by omega), h2, nI_add, bPla_putScore_107]
    have hsz : sv s r = z := by unfold sv; rw [e]; rfl
    have hai := (insA_i s z (rkN s r) (rkN s r).length).1
    refine ⟨_, rfl, fun v hv => ?_, fun k y hy => ?_, ?_, fun q j y1 y2 y3 => ?_⟩
    · rw [z2_ne (by omega), g5 _ (by omega)]; exact hrow v hv
    · rw [z2_ne (by omega)]
      unfold insR at hy
      rw [hsz] at hy
      generalize insA s z (rkN s r) (rkN s r).length = a at g2 g3 g4 hy hai
      by_cases k1 : k < a
      · rw [List.getElem?_append_left (by rw [List.length_take]; omega), List.getElem?_take_of_lt k1] at hy
        exact g2 k y hy k1
      · rw [List.getElem?_append_right (by rw [List.length_take]; omega), List.length_take, Nat.min_eq_left hai] at hy
        by_cases k2 : k = a
        · subst k2
          rw [Nat.sub_self] at hy
          cases hy
          exact g3
        · rw [show k - a = (k - a - 1) + 1 from by omega, List.getElem?_cons_succ, List.getElem?_drop] at hy
          have := g4 _ y hy (by omega)
          rw [show a + (k - a - 1) + 1 = k from by omega] at this
          exact this
    · rw [z2_at, insR_l]
    · rw [z2a, if_neg y3, g5 q y2, z2a, if_neg y1]
end CRANK
