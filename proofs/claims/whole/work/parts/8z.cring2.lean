-- THE COMPONENT: rings, the shortest way
theorem and_n0 {A B : Int32} : (¬ A &&& B = 0) ↔ ∃ j, j < 32 ∧ bt A j = true ∧ bt B j = true := by
  constructor
  · intro h
    refine Classical.byContradiction fun z => h (b_ext (fun j hj => ?_))
    rw [b_and, b_0]
    cases e1 : bt A j with
    | false => rfl
    | true =>
      cases e2 : bt B j with
      | false => rfl
      | true => exact absurd ⟨j, hj, e1, e2⟩ z
  · rintro ⟨j, hj, h1, h2⟩ h
    have := congrArg (fun z => bt z j) h
    rw [b_and, b_0, h1, h2] at this
    cases this
section LST
variable {W : Nat → Int32} {n x : Nat}
theorem no_rc {k e : Nat} (h : ∀ i, i < k → ¬ ed W n x i e) : ∀ i, i < k → ¬ rc W n x i e := fun i hi hr => by
  obtain ⟨h1, h2⟩ := dst_ed hr
  exact h _ (by omega) h1
theorem ed_step {m e : Nat} (h : ∀ i, i < m + 1 → ¬ ed W n x i e) : ed W n x (m + 1) e ↔ ∃ o, o < n ∧ bt (W e) o = true ∧ ed W n x m o := by
  refine ⟨ed_s, fun ⟨o, h1, h2, h3⟩ => ⟨⟨o, h1, h2, h3.1⟩, no_rc h⟩⟩
theorem lst_yes (hn : n ≤ 12) {k o : Nat} (hk : k < 12) (ho : o < n) (hb : bt (W x) o = true) (he : ed W n x k o) (hno : ∀ i, i < k → ∀ o, o < n → bt (W x) o = true → ¬ ed W n x i o) : lstF W n x = k + 1 := by
  obtain ⟨h1, h2, h3⟩ := lst_p (W := W) (n := n) (x := x) (List.range n) 99
  have h1 : lstF W n x = 99 ∨ ∃ o ∈ List.range n, bt (W x) o = true ∧ lstF W n x = dst W n x o + 1 := h1
  have h3 : lstF W n x ≤ dst W n x o + 1 := h3 o (List.mem_range.mpr ho) hb
  have hd : dst W n x o = k := ed_u (dst_ed he.1).1 he
  rcases h1 with h1 | ⟨o', ho', hb', h1⟩
  · omega
  · have ho' := List.mem_range.mp ho'
    have he' := (dst_99 (W := W) (x := x) hn ho' (by omega)).1
    have : ¬ dst W n x o' < k := fun z => hno _ z o' ho' hb' he'
    omega
theorem lst_none (hn : n ≤ 12) (hno : ∀ i, i < 12 → ∀ o, o < n → bt (W x) o = true → ¬ ed W n x i o) : lstF W n x = 99 := by
  obtain ⟨h1, h2, h3⟩ := lst_p (W := W) (n := n) (x := x) (List.range n) 99
  have h1 : lstF W n x = 99 ∨ ∃ o ∈ List.range n, bt (W x) o = true ∧ lstF W n x = dst W n x o + 1 := h1
  have h2 : lstF W n x ≤ 99 := h2
  rcases h1 with h1 | ⟨o', ho', hb', h1⟩
  · exact h1
  · have ho' := List.mem_range.mp ho'
    obtain ⟨he, hlt⟩ := dst_99 (W := W) (x := x) hn ho' (by omega)
    exact absurd he (hno _ (by omega) o' ho' hb')
end LST
section CRING2
variable {ρ : Nat × (Nat → Int32)} {d : Nat} {c : Nat × Nat} {R : Nat → Nat → Option Nat} {I J : Nat → Nat → Int32} {L : Nat → Nat → Int64} {W : Nat → Int32} {n x : Nat}
/-- those at distance k -/
def NR (W : Nat → Int32) (n x : Nat) (I : Nat → Nat → Int32) (k : Nat) : Prop := ∀ j, j < 32 → (bt (I 253 k) j = true ↔ j < n ∧ ed W n x k j)
def WA (W : Nat → Int32) (n : Nat) (I : Nat → Nat → Int32) : Prop := (∀ e, e < n → I 252 e = W e) ∧ ∀ e, n ≤ e → e < 12 → I 252 e = nI 0
theorem Rin_in (hn : n ≤ 12) {m : Nat} (hm : m + 1 < 12) {S : Int32} (hS : ∀ j, j < 32 → (bt S j = true ↔ j < n ∧ ∃ i, i < m + 1 ∧ ed W n x i j)) : ∀ (r e : Nat) (I : Nat → Nat → Int32), e + r = 12 → WA W n I → (∀ k, k ≤ m → NR W n x I k) → (∀ j, j < 32 → (bt (I 253 (m + 1)) j = true ↔ (j < e ∧ j < n) ∧ ed W n x (m + 1) j)) → ∃ J, EV ρ (d + 2) 191 34 [.ref 251, .int (nI x), .int S, .int (nI (m + 1)), .int (nI e)] [] (mk c R I L) = EV ρ (d + 2) 191 34 [.ref 251, .int (nI x), .int S, .int (nI (m + 1)), .int (nI 12)] [] (mk c R J L) ∧ WA W n J ∧ (∀ k, k ≤ m + 1 → NR W n x J k) ∧ ∀ q, q ≠ 253 → J q = I q := by
  intro r
  induction r with
  | zero =>
    intro e I he hW hN hA
    refine ⟨I, by rw [show e = 12 from by omega], hW, fun k hk => ?_, fun _ _ => rfl⟩
    by_cases ek : k = m + 1
    · subst ek
      intro j hj
      rw [hA j hj]
      exact ⟨fun z => ⟨z.1.2, z.2⟩, fun z => ⟨⟨by omega, z.1⟩, z.2⟩⟩
    · exact hN k (by omega)
  | succ r ih =>
    intro e I he hW hN hA
    have keep : ¬ (e < n ∧ ed W n x (m + 1) e) → ∃ J, EV ρ (d + 2) 191 82 [.ref 251, .int (nI x), .int S, .int (nI (m + 1)), .int (nI e)] [] (mk c R I L) = EV ρ (d + 2) 191 34 [.ref 251, .int (nI x), .int S, .int (nI (m + 1)), .int (nI 12)] [] (mk c R J L) ∧ WA W n J ∧ (∀ k, k ≤ m + 1 → NR W n x J k) ∧ ∀ q, q ≠ 253 → J q = I q := fun hno => by
      rw [bRin_shortestWay_82, nI_add]
      refine ih (e + 1) I (by omega) hW hN (fun j hj => ?_)
      rw [hA j hj]
      refine ⟨fun z => ⟨⟨by omega, z.1.2⟩, z.2⟩, fun z => ⟨⟨?_, z.1.2⟩, z.2⟩⟩
      by_cases ej : j = e
      · subst ej; exact absurd ⟨z.1.2, z.2⟩ hno
      · have := z.1.1; omega
    rw [bRin_shortestWay_34, if_neg (nI_ge (by omega) (by decide))]
    by_cases es : bt S e = true
    · rw [if_neg (fun z => by rw [(hs_0 (by omega) _).mp z] at es; cases es)]
      refine keep (fun z => ?_)
      obtain ⟨-, i, hi, hei⟩ := (hS e (by omega)).mp es
      have := ed_u hei z.2
      omega
    · rw [if_pos ((hs_0 (by omega) _).mpr (Bool.eq_false_iff.mpr es)), zidx_n (by omega) (by decide), pk_sub (by omega), show m + 1 - 1 = m from rfl, zidx_n (by omega) (by decide)]
      have hns : e < n → ∀ i, i < m + 1 → ¬ ed W n x i e := fun hen i hi hei => es ((hS e (by omega)).mpr ⟨hen, i, hi, hei⟩)
      have hiff : (¬ I 252 e &&& I 253 m = 0) ↔ e < n ∧ ed W n x (m + 1) e := by
        rw [and_n0]
        by_cases hen : e < n
        · rw [hW.1 e hen]
          constructor
          · rintro ⟨j, hj, h1, h2⟩
            obtain ⟨h3, h4⟩ := (hN m (Nat.le_refl _) j hj).mp h2
            exact ⟨hen, (ed_step (hns hen)).mpr ⟨j, h3, h1, h4⟩⟩
          · rintro ⟨-, h⟩
            obtain ⟨o, o1, o2, o3⟩ := (ed_step (hns hen)).mp h
            exact ⟨o, by omega, o2, (hN m (Nat.le_refl _) o (by omega)).mpr ⟨o1, o3⟩⟩
        · rw [hW.2 e (by omega) (by omega)]
          constructor
          · rintro ⟨j, -, h1, -⟩
            rw [show bt (nI 0) j = false from b_0 j] at h1
            cases h1
          · exact fun z => absurd z.1 hen
      by_cases e0 : I 252 e &&& I 253 m = 0
      · rw [if_pos e0]
        exact keep (fun z => (hiff.mpr z) e0)
      · obtain ⟨hen, hed⟩ := hiff.mp e0
        rw [if_neg e0, zidx_n (by omega) (by decide), zidx_n (by omega) (by decide), bRin_shortestWay_82, nI_add]
        obtain ⟨J, j1, j2, j3, j4⟩ := ih (e + 1) (z2 I 253 (m + 1) (I 253 (m + 1) ||| (nI 1 <<< (nI e &&& 31)))) (by omega) ⟨fun y hy => by rw [z2_ne (by decide)]; exact hW.1 y hy, fun y h1 h2 => by rw [z2_ne (by decide)]; exact hW.2 y h1 h2⟩ (fun k hk j hj => by rw [z2a, if_neg (by omega)]; exact hN k hk j hj) (fun j hj => by
          rw [z2_at, b_or, Bool.or_eq_true, hA j hj, b_bit (by omega), decide_eq_true_eq]
          constructor
          · rintro (z | z)
            · exact ⟨⟨by omega, z.1.2⟩, z.2⟩
            · subst z; exact ⟨⟨by omega, hen⟩, hed⟩
          · rintro z
            by_cases ej : j = e
            · exact Or.inr ej
            · have := z.1.1; exact Or.inl ⟨⟨by omega, z.1.2⟩, z.2⟩)
        exact ⟨J, j1, j2, j3, fun q hq => by rw [j4 q hq, z2_ne hq]⟩
theorem Rin_way_l (hn : n ≤ 12) (hx : x < n) : ∀ (r m : Nat) (S : Int32) (I : Nat → Nat → Int32), m + 1 + r = 12 → WA W n I → (∀ k, k ≤ m → NR W n x I k) → (∀ j, j < 32 → (bt S j = true ↔ j < n ∧ ∃ i, i < m + 1 ∧ ed W n x i j)) → (∀ i, i < m + 1 → ∀ o, o < n → bt (W x) o = true → ¬ ed W n x i o) → ∃ J, EV ρ (d + 2) 191 18 [.ref 251, .int (nI x), .int S, .int (nI (m + 1)), zU] [] (mk c R I L) = some ([.int (if lstF W n x < 99 then nI (lstF W n x) else nI 0)], mk c R J L) ∧ WA W n J ∧ (lstF W n x < 99 → lstF W n x ≤ 12 ∧ ∀ k, k < lstF W n x → NR W n x J k) ∧ ∀ q, q ≠ 253 → J q = I q := by
  intro r
  induction r with
  | zero =>
    intro m S I hm hW hN hS hno
    have h99 := lst_none (W := W) (x := x) hn (fun i hi => hno i (by omega))
    rw [bRin_shortestWay_18, if_pos (nI_le (by omega) (by omega)), h99, if_neg (by decide)]
    exact ⟨I, rfl, hW, fun z => by omega, fun _ _ => rfl⟩
  | succ r ih =>
    intro m S I hm hW hN hS hno
    rw [bRin_shortestWay_18, if_neg (nI_ge (by omega) (by decide)), zidx_n (by omega) (by decide), bRin_shortestWay_31]
    obtain ⟨J, j1, j2, j3, j4⟩ := Rin_in (ρ := ρ) (d := d) (c := c) (R := R) (L := L) hn (by omega) hS 12 0 (z2 I 253 (m + 1) (nI 0)) (by omega) ⟨fun y hy => by rw [z2_ne (by decide)]; exact hW.1 y hy, fun y h1 h2 => by rw [z2_ne (by decide)]; exact hW.2 y h1 h2⟩ (fun k hk j hj => by rw [z2a, if_neg (by omega)]; exact hN k hk j hj) (fun j hj => by
      rw [z2_at, show bt (nI 0) j = false from b_0 j]
      exact ⟨fun z => (by cases z), fun z => (by omega)⟩)
    have hJ4 : ∀ q, q ≠ 253 → J q = I q := fun q hq => by rw [j4 q hq, z2_ne hq]
    rw [j1, bRin_shortestWay_34, if_pos (nI_le (Nat.le_refl _) (by decide)), zidx_n (by omega) (by decide), zidx_n (by omega) (by decide), zidx_n (by omega) (by decide), j2.1 x hx, nI_add]
    by_cases e0 : W x &&& J 253 (m + 1) = 0
    · rw [if_pos e0]
      have hno2 : ∀ o, o < n → bt (W x) o = true → ¬ ed W n x (m + 1) o := fun o ho hb he => and_n0.mpr ⟨o, by omega, hb, (j3 (m + 1) (Nat.le_refl _) o (by omega)).mpr ⟨ho, he⟩⟩ e0
      obtain ⟨K, k1, k2, k3, k4⟩ := ih (m + 1) (S ||| J 253 (m + 1)) J (by omega) j2 j3 (fun j hj => by
        rw [b_or, Bool.or_eq_true, hS j hj, j3 (m + 1) (Nat.le_refl _) j hj]
        constructor
        · rintro (⟨h1, i, h2, h3⟩ | ⟨h1, h2⟩)
          · exact ⟨h1, i, by omega, h3⟩
          · exact ⟨h1, m + 1, by omega, h2⟩
        · rintro ⟨h1, i, h2, h3⟩
          by_cases ei : i = m + 1
          · subst ei; exact Or.inr ⟨h1, h3⟩
          · exact Or.inl ⟨h1, i, by omega, h3⟩) (fun i hi o ho hb he => by
        by_cases ei : i = m + 1
        · subst ei; exact hno2 o ho hb he
        · exact hno i (by omega) o ho hb he)
      exact ⟨K, k1, k2, k3, fun q hq => (k4 q hq).trans (hJ4 q hq)⟩
    · rw [if_neg e0]
      obtain ⟨o, h1, h2, h3⟩ := and_n0.mp e0
      obtain ⟨h4, h5⟩ := (j3 (m + 1) (Nat.le_refl _) o h1).mp h3
      have hl := lst_yes hn (by omega) h4 h2 h5 hno
      rw [hl, if_pos (by omega)]
      exact ⟨J, rfl, j2, fun _ => ⟨by omega, fun k hk => j3 k (by omega)⟩, hJ4⟩
end CRING2
