-- THE REFERENCE'S TOKENS
/-- the reference's tape while it is read -/
def TP (n : Nat) (t : Nat → Nat) (I : Nat → Nat → Int32) : Prop := I 257 21 = nI n ∧ n ≤ 648 ∧ ∀ i, i < n → I 258 i = nI (t i) ∧ t i < 256
/-- the reference's token -/
def TkR (K : Tk) (I : Nat → Nat → Int32) (L : Nat → Nat → Int64) : Prop := I 257 23 = nI K.1 ∧ I 257 24 = nI K.2.1 ∧ (K.1 ≠ 5 → I 257 25 = nI K.2.2.1) ∧ (K.1 = 1 → L 257 26 = c56 K.2.2.2) ∧ (K.1 = 2 → I 257 27 = nI (nmb K))
/-- behind a step: the token's fields alone -/
def FS7 {α : Type} (I J : Nat → Nat → α) : Prop := ∀ q j, ¬ (q = 257 ∧ 23 ≤ j ∧ j ≤ 27) → J q j = I q j
theorem FS7_r {α : Type} {I : Nat → Nat → α} : FS7 I I := fun _ _ _ => rfl
theorem FS7_t {α : Type} {I J K : Nat → Nat → α} (h : FS7 I J) (h2 : FS7 J K) : FS7 I K := fun q j hq => (h2 q j hq).trans (h q j hq)
theorem FS7_z2 {α : Type} {I J : Nat → Nat → α} {j : Nat} {v : α} (h : FS7 I J) (hj : 23 ≤ j ∧ j ≤ 27) : FS7 I (z2 J 257 j v) := fun a b hab => by
  rw [z2a, if_neg (by omega)]
  exact h a b hab
theorem TP_to {n : Nat} {t : Nat → Nat} {I J : Nat → Nat → Int32} (h : TP n t I) (h2 : FS7 I J) : TP n t J := by
  refine ⟨?_, h.2.1, fun i hi => ?_⟩
  · rw [h2 _ _ (by omega)]; exact h.1
  · rw [h2 _ _ (by omega)]; exact h.2.2 i hi
theorem z2_c2 {α : Type} {f : Nat → Nat → α} {k j j2 : Nat} {v w : α} (h : j ≠ j2) : z2 (z2 f k j v) k j2 w = z2 (z2 f k j2 w) k j v := by
  funext a b
  rw [z2a, z2a, z2a, z2a]
  by_cases h1 : a = k ∧ b = j
  · rw [if_neg (show ¬ (a = k ∧ b = j2) from by omega), if_pos h1, if_pos h1]
  · rw [if_neg h1, if_neg h1]
section MSTEP
variable {ρ : Nat × (Nat → Int32)} {d : Nat} {c : Nat × Nat} {R : Nat → Nat → Option Nat} {I J : Nat → Nat → Int32} {L : Nat → Nat → Int64} {n : Nat} {t : Nat → Nat}
theorem qy_256 (h : TP n t I) (k : Nat) : qy n t k < 257 := by
  by_cases e : k < n
  · rw [qy_lt e]; have := (h.2.2 k e).2; omega
  · rw [qy_ge e]; decide
theorem M_byteAt_e (h : TP n t I) {k : Nat} (hk : k ≤ n) : EV ρ (d + 1) 14 0 [.ref 257, .int (nI k)] [] (mk c R I L) = some ([.int (rb (qy n t k))], mk c R I L) := by
  have hn := h.2.1
  rw [bM_byteAt_0, h.1]
  by_cases e : k < n
  · rw [if_neg (nI_ge e (by omega)), zidx_n (by omega) (by decide), (h.2.2 k e).1, qy_lt e, rb_n (h.2.2 k e).2]
  · rw [if_pos (nI_le (by omega) (by omega)), qy_ge e]; rfl
theorem M_isLetter_e {x : Nat} (h : x < 257) : EV ρ (d + 1) 15 0 [.int (rb x)] [] (mk c R I L) = some ([.int (bo (isLt x))], mk c R I L) := by
  rw [bM_isLetter_0]
  exact bo_ite (rb_L x h)
theorem M_isDigit_e {x : Nat} (h : x < 257) : EV ρ (d + 1) 16 0 [.int (rb x)] [] (mk c R I L) = some ([.int (bo (isDg x))], mk c R I L) := by
  rw [bM_isDigit_0]
  exact bo_ite (rb_D x h)
theorem M_isSign_e {x : Nat} (h : x < 257) : EV ρ (d + 2) 17 0 [.int (rb x)] [] (mk c R I L) = some ([.int (bo (isSg x))], mk c R I L) := by
  rw [bM_isSign_0, M_isLetter_e h, zci, bM_isSign_4]
  unfold isSg
  cases e1 : isLt x
  · rw [if_pos (by decide), M_isDigit_e h, zci, bM_isSign_11]
    cases e2 : isDg x
    · rw [if_pos (by decide)]
      by_cases e3 : x = 63
      · rw [if_pos ((rb_e 63 (by decide) x h).mpr e3), e3]; rfl
      · rw [if_neg (fun z => e3 ((rb_e 63 (by decide) x h).mp z))]
        by_cases e4 : x = 42
        · rw [if_pos ((rb_e 42 (by decide) x h).mpr e4), e4]; rfl
        · rw [if_neg (fun z => e4 ((rb_e 42 (by decide) x h).mp z)), show (x == 63) = false from beq_eq_false_iff_ne.mpr e3, show (x == 42) = false from beq_eq_false_iff_ne.mpr e4]; rfl
    · rw [if_neg (by decide)]; rfl
  · rw [if_neg (by decide)]; rfl
theorem ru_55 {x : Nat} (h : x < 257) (v1 : Int32) (p q : Bool) : EV ρ (d + 2) 19 55 [.ref 257, .int v1, .int (bo p), .int (bo q), zU] [.int (rb x)] (mk c R I L) = EV ρ (d + 2) 19 120 [.ref 257, .int v1, .int (bo (p && isLt x)), .int (bo (q && isDg x)), .int (rb x)] [] (mk c R I (if nI 8 ≤ I 257 25 - v1 then L else z2 L 257 26 (lN 256 * L 257 26 + (rb x).toInt64))) := by
  rw [bM_runs_55]
  by_cases h8 : nI 8 ≤ I 257 25 - v1
  · simp only [if_pos h8]
    cases p
    · rw [if_pos (by decide)]
      cases q
      · rw [if_pos (by decide)]; rfl
      · rw [if_neg (by decide), M_isDigit_e h, zci, bM_runs_84]
        simp only [if_pos h8]
        cases isDg x
        · rw [if_pos (by decide)]; rfl
        · rw [if_neg (by decide)]; rfl
    · rw [if_neg (by decide), M_isLetter_e h, zci, bM_runs_66]
      simp only [if_pos h8]
      cases isLt x
      · rw [if_pos (by decide)]
        cases q
        · rw [if_pos (by decide)]; rfl
        · rw [if_neg (by decide), M_isDigit_e h, zci, bM_runs_84]
          simp only [if_pos h8]
          cases isDg x
          · rw [if_pos (by decide)]; rfl
          · rw [if_neg (by decide)]; rfl
      · rw [if_neg (by decide)]
        cases q
        · rw [if_pos (by decide)]; rfl
        · rw [if_neg (by decide), M_isDigit_e h, zci, bM_runs_84]
          simp only [if_pos h8]
          cases isDg x
          · rw [if_pos (by decide)]; rfl
          · rw [if_neg (by decide)]; rfl
  · simp only [if_neg h8]
    cases p
    · rw [if_pos (by decide)]
      cases q
      · rw [if_pos (by decide)]; rfl
      · rw [if_neg (by decide), M_isDigit_e h, zci, bM_runs_84]
        simp only [if_neg h8]
        cases isDg x
        · rw [if_pos (by decide)]; rfl
        · rw [if_neg (by decide)]; rfl
    · rw [if_neg (by decide), M_isLetter_e h, zci, bM_runs_66]
      simp only [if_neg h8]
      cases isLt x
      · rw [if_pos (by decide)]
        cases q
        · rw [if_pos (by decide)]; rfl
        · rw [if_neg (by decide), M_isDigit_e h, zci, bM_runs_84]
          simp only [if_neg h8]
          cases isDg x
          · rw [if_pos (by decide)]; rfl
          · rw [if_neg (by decide)]; rfl
      · rw [if_neg (by decide)]
        cases q
        · rw [if_pos (by decide)]; rfl
        · rw [if_neg (by decide), M_isDigit_e h, zci, bM_runs_84]
          simp only [if_neg h8]
          cases isDg x
          · rw [if_pos (by decide)]; rfl
          · rw [if_neg (by decide)]; rfl
/-- how a run of letters and digits ends -/
theorem ru_end {k a : Nat} {p q : Bool} (hk : k ≤ a) (ha : a ≤ 648) (h25 : I 257 25 = nI a) (h23 : I 257 23 = nI 5) (s : Rs) (hs : s = if bo p = 0 then EV ρ (d + 2) 19 180 [.ref 257, .int (nI k), zU, .int (bo q), zU] [] (mk c R I L) else if nI 7 < I 257 25 - nI k then EV ρ (d + 2) 19 180 [.ref 257, .int (nI k), zU, .int (bo q), zU] [] (mk c R I L) else EV ρ (d + 2) 19 180 [.ref 257, .int (nI k), zU, .int (bo q), zU] [] (mk c R (z2 I 257 23 (nI 1)) L)) :
    ∃ J, s = some ([], mk c R J L) ∧ FS7 I J ∧ (∀ j, j ≠ 23 → J 257 j = I 257 j) ∧ J 257 23 = nI (if q = true ∧ a - k ≤ 2 then 2 else if p = true ∧ a - k ≤ 7 then 1 else 5) := by
  have h180 : ∀ (J : Nat → Nat → Int32) (y : Nat), J 257 25 = nI a → J 257 23 = nI y → ∃ J', EV ρ (d + 2) 19 180 [.ref 257, .int (nI k), zU, .int (bo q), zU] [] (mk c R J L) = some ([], mk c R J' L) ∧ FS7 J J' ∧ (∀ j, j ≠ 23 → J' 257 j = J 257 j) ∧ J' 257 23 = nI (if q = true ∧ a - k ≤ 2 then 2 else y) := by
    intro J y j25 j23
    rw [bM_runs_180, j25, pk_sub hk]
    cases q
    · rw [if_pos (by decide), bM_runs_199]
      exact ⟨J, rfl, FS7_r, fun _ _ => rfl, by rw [if_neg (fun z => by cases z.1)]; exact j23⟩
    · rw [if_neg (by decide)]
      by_cases e : a - k ≤ 2
      · rw [if_neg (nI_nlt e (by decide)), bM_runs_199]
        exact ⟨_, rfl, FS7_z2 FS7_r (by omega), fun j hj => by rw [z2a, if_neg (by omega)], by rw [z2_at, if_pos ⟨rfl, e⟩]⟩
      · rw [if_pos (nI_lt (by omega) (by omega)), bM_runs_199]
        exact ⟨J, rfl, FS7_r, fun _ _ => rfl, by rw [if_neg (fun z => e z.2)]; exact j23⟩
  rw [hs, h25, pk_sub hk]
  cases p
  · rw [if_pos (by decide), show (if false = true ∧ a - k ≤ 7 then 1 else 5) = 5 from if_neg (fun z => by cases z.1)]
    exact h180 I 5 h25 h23
  · rw [if_neg (by decide)]
    by_cases e : a - k ≤ 7
    · rw [if_neg (nI_nlt e (by decide)), show (if true = true ∧ a - k ≤ 7 then 1 else 5) = 1 from if_pos ⟨rfl, e⟩]
      obtain ⟨J', g1, g2, g3, g4⟩ := h180 (z2 I 257 23 (nI 1)) 1 (by rw [z2a, if_neg (by omega)]; exact h25) (by rw [z2_at])
      exact ⟨J', g1, FS7_t (FS7_z2 FS7_r (by omega)) g2, fun j hj => by rw [g3 j hj, z2a, if_neg (by omega)], g4⟩
    · rw [if_pos (nI_lt (by omega) (by omega)), show (if true = true ∧ a - k ≤ 7 then 1 else 5) = 5 from if_neg (fun z => e z.2)]
      exact h180 I 5 h25 h23
theorem ru_loop {k : Nat} : ∀ (m i : Nat) (I : Nat → Nat → Int32) (L : Nat → Nat → Int64), n - i = m → k ≤ i → i ≤ n → TP n t I → I 257 25 = nI i → (i - k ≤ 8 → L 257 26 = c56 (slc t k i)) → (i - k ≤ 2 → I 257 27 = nI (cd 10 48 (slc t k i))) → I 257 23 = nI 5 →
    ∃ J L', EV ρ (d + 2) 19 19 [.ref 257, .int (nI k), .int (bo ((slc t k i).all isLt)), .int (bo ((slc t k i).all isDg)), zU] [] (mk c R I L) = some ([], mk c R J L') ∧ FS7 I J ∧ FS7 L L' ∧ J 257 24 = I 257 24 ∧ J 257 25 = nI (scn (fun i => isAn (qy n t i)) m i) ∧ J 257 23 = nI (if (slc t k (scn (fun i => isAn (qy n t i)) m i)).all isDg = true ∧ scn (fun i => isAn (qy n t i)) m i - k ≤ 2 then 2 else if (slc t k (scn (fun i => isAn (qy n t i)) m i)).all isLt = true ∧ scn (fun i => isAn (qy n t i)) m i - k ≤ 7 then 1 else 5) ∧
      (scn (fun i => isAn (qy n t i)) m i - k ≤ 8 → L' 257 26 = c56 (slc t k (scn (fun i => isAn (qy n t i)) m i))) ∧ (scn (fun i => isAn (qy n t i)) m i - k ≤ 2 → J 257 27 = nI (cd 10 48 (slc t k (scn (fun i => isAn (qy n t i)) m i)))) := by
  intro m
  induction m with
  | zero =>
    intro i I L hm hk hi h h25 hw hu h23
    have hn := h.2.1
    have e : i = n := by omega
    subst e
    rw [bM_runs_19, h25, M_byteAt_e h (Nat.le_refl _), zci, bM_runs_27, M_isLetter_e (qy_256 h _), zci, bM_runs_30, h25, qy_ge (Nat.lt_irrefl _), if_pos (by decide), M_byteAt_e h (Nat.le_refl _), zci, bM_runs_41, M_isDigit_e (qy_256 h _), zci, qy_ge (Nat.lt_irrefl _), bM_runs_44, if_pos (by decide)]
    obtain ⟨J, g1, g2, g3, g4⟩ := ru_end (ρ := ρ) (d := d) (c := c) (R := R) (L := L) (p := (slc t k i).all isLt) (q := (slc t k i).all isDg) hk hn h25 h23 _ rfl
    exact ⟨J, L, g1, g2, FS7_r, g3 24 (by decide), (g3 25 (by decide)).trans h25, g4, hw, fun z => (g3 27 (by decide)).trans (hu z)⟩
  | succ m ih =>
    intro i I L hm hk hi h h25 hw hu h23
    have hn := h.2.1
    have hti := (h.2.2 i (by omega)).2
    have hs : scn (fun i => isAn (qy n t i)) (m + 1) i = if isAn (qy n t i) = true then scn (fun i => isAn (qy n t i)) m (i + 1) else i := rfl
    have hq : qy n t i = t i := qy_lt (by omega)
    rw [hq] at hs
    have hgo : isAn (t i) = true → ∃ J L', EV ρ (d + 2) 19 55 [.ref 257, .int (nI k), .int (bo ((slc t k i).all isLt)), .int (bo ((slc t k i).all isDg)), zU] [.int (rb (t i))] (mk c R I L) = some ([], mk c R J L') ∧ FS7 I J ∧ FS7 L L' ∧ J 257 24 = I 257 24 ∧ J 257 25 = nI (scn (fun i => isAn (qy n t i)) m (i + 1)) ∧ J 257 23 = nI (if (slc t k (scn (fun i => isAn (qy n t i)) m (i + 1))).all isDg = true ∧ scn (fun i => isAn (qy n t i)) m (i + 1) - k ≤ 2 then 2 else if (slc t k (scn (fun i => isAn (qy n t i)) m (i + 1))).all isLt = true ∧ scn (fun i => isAn (qy n t i)) m (i + 1) - k ≤ 7 then 1 else 5) ∧
      (scn (fun i => isAn (qy n t i)) m (i + 1) - k ≤ 8 → L' 257 26 = c56 (slc t k (scn (fun i => isAn (qy n t i)) m (i + 1)))) ∧ (scn (fun i => isAn (qy n t i)) m (i + 1) - k ≤ 2 → J 257 27 = nI (cd 10 48 (slc t k (scn (fun i => isAn (qy n t i)) m (i + 1))))) := by
      intro hA
      have hx := isAn_lt hA
      rw [ru_55 (by omega), h25, pk_sub hk]
      have ea : ∀ (p : Nat → Bool), ((slc t k i).all p && p (t i)) = (slc t k (i + 1)).all p := fun p => by
        rw [slc_s t hk, List.all_append]
        show _ = ((slc t k i).all p && (p (t i) && true))
        rw [Bool.and_true]
      rw [ea, ea, rb_n (by omega), nI_l (by omega)]
      have hL2 : ∃ L2, (if nI 8 ≤ nI (i - k) then L else z2 L 257 26 (lN 256 * L 257 26 + lN (t i))) = L2 ∧ FS7 L L2 ∧ (i + 1 - k ≤ 8 → L2 257 26 = c56 (slc t k (i + 1))) := by
        by_cases e8 : i - k < 8
        · rw [if_neg (nI_ge e8 (by decide))]
          refine ⟨_, rfl, FS7_z2 FS7_r (by omega), fun _ => ?_⟩
          rw [z2_at, hw (by omega), lN_mul, lN_add]
          show _ = lN _
          rw [slc_s t hk, cd_s]
          rfl
        · rw [if_pos (nI_le (by omega) (by omega))]
          exact ⟨L, rfl, FS7_r, fun z => by omega⟩
      obtain ⟨L2, eL, fL, wL⟩ := hL2
      rw [eL, bM_runs_120, h25, pk_sub hk]
      have hI2 : ∃ I2, EV ρ (d + 2) 19 147 [.ref 257, .int (nI k), .int (bo ((slc t k (i + 1)).all isLt)), .int (bo ((slc t k (i + 1)).all isDg)), zU] [] (mk c R I2 L2) = (if nI 2 ≤ nI (i - k) then EV ρ (d + 2) 19 147 [.ref 257, .int (nI k), .int (bo ((slc t k (i + 1)).all isLt)), .int (bo ((slc t k (i + 1)).all isDg)), zU] [] (mk c R I L2) else EV ρ (d + 2) 19 147 [.ref 257, .int (nI k), .int (bo ((slc t k (i + 1)).all isLt)), .int (bo ((slc t k (i + 1)).all isDg)), zU] [] (mk c R (z2 I 257 27 (nI 10 * I 257 27 + nI (t i) - nI 48)) L2)) ∧ FS7 I I2 ∧ (∀ j, j ≠ 27 → I2 257 j = I 257 j) ∧ (i + 1 - k ≤ 2 → I2 257 27 = nI (cd 10 48 (slc t k (i + 1)))) := by
        by_cases e2 : i - k < 2
        · rw [if_neg (nI_ge e2 (by decide))]
          refine ⟨_, rfl, FS7_z2 FS7_r (by omega), fun j hj => by rw [z2a, if_neg (by omega)], fun _ => ?_⟩
          rw [z2_at, hu (by omega), pk_mul, nI_add, pk_sub (by omega), slc_s t hk, cd_s]
          congr 1
          omega
        · rw [if_pos (nI_le (by omega) (by omega))]
          exact ⟨I, rfl, FS7_r, fun _ _ => rfl, fun z => by omega⟩
      obtain ⟨I2, eI, fI, gI, uI⟩ := hI2
      rw [← eI, bM_runs_147, gI 25 (by decide), h25, nI_add, bM_runs_157]
      obtain ⟨J, L', b1, b2, b3, b4, b5, b6, b7, b8⟩ := ih (i + 1) (z2 I2 257 25 (nI (i + 1))) L2 (by omega) (by omega) (by omega) (TP_to h (FS7_z2 fI (by omega))) (by rw [z2_at]) wL (fun z => by rw [z2a, if_neg (by omega)]; exact uI z) (by rw [z2a, if_neg (by omega), gI 23 (by decide)]; exact h23)
      exact ⟨J, L', b1, FS7_t (FS7_z2 fI (by omega)) b2, FS7_t fL b3, by rw [b4, z2a, if_neg (by omega), gI 24 (by decide)], b5, b6, b7, b8⟩
    rw [bM_runs_19, h25, M_byteAt_e h (by omega), zci, bM_runs_27, M_isLetter_e (qy_256 h _), zci, bM_runs_30, h25, hq]
    cases e1 : isLt (t i)
    · rw [if_pos (by decide), M_byteAt_e h (by omega), zci, bM_runs_41, M_isDigit_e (qy_256 h _), zci, bM_runs_44, hq]
      cases e2 : isDg (t i)
      · have eA : ¬ isAn (t i) = true := by unfold isAn; rw [e1, e2]; decide
        rw [if_neg eA] at hs
        rw [if_pos (by decide), hs]
        obtain ⟨J, g1, g2, g3, g4⟩ := ru_end (ρ := ρ) (d := d) (c := c) (R := R) (L := L) (p := (slc t k i).all isLt) (q := (slc t k i).all isDg) hk (by omega) h25 h23 _ rfl
        exact ⟨J, L, g1, g2, FS7_r, g3 24 (by decide), (g3 25 (by decide)).trans h25, g4, hw, fun z => (g3 27 (by decide)).trans (hu z)⟩
      · have eA : isAn (t i) = true := by unfold isAn; rw [e2, Bool.or_true]
        rw [if_pos eA] at hs
        rw [if_neg (by decide), h25, M_byteAt_e h (by omega), zci, hq, hs]
        exact hgo eA
    · have eA : isAn (t i) = true := by unfold isAn; rw [e1]; rfl
      rw [if_pos eA] at hs
      rw [if_neg (by decide), M_byteAt_e h (by omega), zci, hq, hs]
      exact hgo eA
theorem nk_loop (h : TP n t I) : ∀ (m i : Nat), n - i = m → i ≤ n → EV ρ (d + 3) 18 13 [.ref 257, .int (nI i), zU] [] (mk c R I L) = EV ρ (d + 3) 18 44 [.ref 257, .int (nI (scn (fun i => isBl (qy n t i)) m i)), zU] [] (mk c R (z2 I 257 24 (nI (scn (fun i => isBl (qy n t i)) m i))) L) := by
  intro m
  have hn := h.2.1
  induction m with
  | zero =>
    intro i hm hi
    have e : i = n := by omega
    subst e
    rw [bM_next_13, M_byteAt_e h hi, zci, bM_next_18, qy_ge (Nat.lt_irrefl _), if_neg (by decide), M_byteAt_e h hi, zci, bM_next_28, qy_ge (Nat.lt_irrefl _), if_neg (by decide)]
    rfl
  | succ m ih =>
    intro i hm hi
    have hti := (h.2.2 i (by omega)).2
    have hs : scn (fun i => isBl (qy n t i)) (m + 1) i = if isBl (qy n t i) = true then scn (fun i => isBl (qy n t i)) m (i + 1) else i := rfl
    have hq : qy n t i = t i := qy_lt (by omega)
    rw [hq] at hs
    rw [bM_next_13, M_byteAt_e h hi, zci, bM_next_18, nI_add, hq]
    by_cases e1 : t i = 32
    · have ea : isBl (t i) = true := by rw [e1]; rfl
      rw [if_pos ea] at hs
      rw [if_pos ((rb_e 32 (by decide) _ (by omega)).mpr e1), hs]
      exact ih (i + 1) (by omega) (by omega)
    · rw [if_neg (fun z => e1 ((rb_e 32 (by decide) _ (by omega)).mp z)), M_byteAt_e h hi, zci, bM_next_28, nI_add, hq]
      by_cases e2 : t i = 10
      · have ea : isBl (t i) = true := by rw [e2]; rfl
        rw [if_pos ea] at hs
        rw [if_pos ((rb_e 10 (by decide) _ (by omega)).mpr e2), hs]
        exact ih (i + 1) (by omega) (by omega)
      · have ea : ¬ isBl (t i) = true := by unfold isBl; rw [beq_eq_false_iff_ne.mpr e1, beq_eq_false_iff_ne.mpr e2]; decide
        rw [if_neg ea] at hs
        rw [if_neg (fun z => e2 ((rb_e 10 (by decide) _ (by omega)).mp z)), hs]
theorem sg_loop (h : TP n t I) {v1 : Int32} : ∀ (m i : Nat), n - i = m → i ≤ n → EV ρ (d + 3) 18 100 [.ref 257, .int v1, zU] [] (mk c R (z2 I 257 25 (nI i)) L) = EV ρ (d + 3) 18 139 [.ref 257, zU, zU] [.int (bo (decide (¬ nI (scn (fun i => isSg (qy n t i)) m i) - v1 < nI 2 ∧ ¬ nI 9 < nI (scn (fun i => isSg (qy n t i)) m i) - v1)))] (mk c R (z2 I 257 25 (nI (scn (fun i => isSg (qy n t i)) m i))) L) := by
  intro m
  have hn := h.2.1
  induction m with
  | zero =>
    intro i hm hi
    have e : i = n := by omega
    subst e
    have hT := TP_to h (FS7_z2 (j := 25) (v := nI i) FS7_r (by omega))
    rw [bM_next_100, z2_at, M_byteAt_e hT hi, zci, bM_next_108, M_isSign_e (qy_256 hT _), zci, bM_next_111, qy_ge (Nat.lt_irrefl _), if_pos (by decide), z2_at, M_within_e, zci]
    rfl
  | succ m ih =>
    intro i hm hi
    have hT := TP_to h (FS7_z2 (j := 25) (v := nI i) FS7_r (by omega))
    have hs : scn (fun i => isSg (qy n t i)) (m + 1) i = if isSg (qy n t i) = true then scn (fun i => isSg (qy n t i)) m (i + 1) else i := rfl
    have hq : qy n t i = t i := qy_lt (by omega)
    rw [hq] at hs
    rw [bM_next_100, z2_at, M_byteAt_e hT hi, zci, bM_next_108, M_isSign_e (qy_256 hT _), zci, bM_next_111, hq, z2_at, nI_add, z2_zz]
    cases e1 : isSg (t i)
    · rw [if_neg (by rw [e1]; decide)] at hs
      rw [if_pos (by decide), M_within_e, zci, hs]
    · rw [if_pos e1] at hs
      rw [if_neg (by decide), bM_next_124, hs]
      exact ih (i + 1) (by omega) (by omega)
theorem M_next_e (h : TP n t I) {e : Nat} (he : e ≤ n) (h25 : I 257 25 = nI e) (h28 : I 257 28 = nI 0) : ∃ J L', EV ρ (d + 3) 18 0 [.ref 257, zU, zU] [] (mk c R I L) = some ([], mk c R J L') ∧ TkR (tok n t e) J L' ∧ FS7 I J ∧ FS7 L L' := by
  have hn := h.2.1
  rw [bM_next_0, h28, if_pos (by decide), h25, nk_loop h _ e rfl he, bM_next_44]
  have hk0 := scn_le (fun i => isBl (qy n t i)) (n - e) e
  unfold tok
  generalize scn (fun i => isBl (qy n t i)) (n - e) e = k at hk0
  simp only
  have hF : FS7 I (z2 (z2 I 257 24 (nI k)) 257 23 (nI 5)) := FS7_z2 (FS7_z2 FS7_r (by omega)) (by omega)
  have hT := TP_to h hF
  rw [bM_next_49, M_byteAt_e hT (by omega), zci, bM_next_54, bM_next_62, nI_add]
  have hF2 : FS7 I (z2 (z2 (z2 I 257 24 (nI k)) 257 23 (nI 5)) 257 25 (nI (k + 1))) := FS7_z2 hF (by omega)
  by_cases c1 : n ≤ k
  · have ek : k = n := by omega
    subst ek
    rw [qy_ge (Nat.lt_irrefl _), if_pos (by decide), bM_next_72, bM_next_77, bM_next_169, if_pos c1]
    refine ⟨_, _, rfl, ⟨?_, ?_, fun _ => ?_, fun z => (by cases z), fun z => (by cases z)⟩, FS7_z2 (FS7_z2 hF2 (by omega)) (by omega), FS7_r⟩
    · rw [z2a, if_neg (by omega), z2_at]
    · rw [z2a, if_neg (by omega), z2a, if_neg (by omega), z2a, if_neg (by omega), z2a, if_neg (by omega), z2_at]
    · rw [z2_at]
  have hq : qy n t k = t k := qy_lt (by omega)
  have htk := (h.2.2 k (by omega)).2
  rw [hq, if_neg (show ¬ rb (t k) = -1 from by rw [rb_n htk]; exact nI_m1 (by omega)), if_neg c1]
  by_cases c2 : t k = 59
  · rw [if_pos ((rb_e 59 (by decide) _ (by omega)).mpr c2), if_pos c2, bM_next_91, bM_next_169]
    refine ⟨_, _, rfl, ⟨?_, ?_, fun _ => ?_, fun z => (by cases z), fun z => (by cases z)⟩, FS7_z2 hF2 (by omega), FS7_r⟩
    · rw [z2_at]
    · rw [z2a, if_neg (by omega), z2a, if_neg (by omega), z2a, if_neg (by omega), z2_at]
    · rw [z2a, if_neg (by omega), z2_at]
  rw [if_neg (fun z => c2 ((rb_e 59 (by decide) _ (by omega)).mp z)), if_neg c2]
  by_cases c3 : t k = 58
  · rw [if_pos ((rb_e 58 (by decide) _ (by omega)).mpr c3), if_pos c3, sg_loop hT _ _ rfl (by omega), bM_next_139]
    have ha := scn_le (fun i => isSg (qy n t i)) (n - (k + 1)) (k + 1)
    generalize scn (fun i => isSg (qy n t i)) (n - (k + 1)) (k + 1) = a at ha
    rw [pk_sub (by omega)]
    have hF3 : FS7 I (z2 (z2 (z2 I 257 24 (nI k)) 257 23 (nI 5)) 257 25 (nI a)) := FS7_z2 hF (by omega)
    by_cases c4 : 2 ≤ a - k ∧ a - k ≤ 9
    · rw [decide_eq_true (show ¬ nI (a - k) < nI 2 ∧ ¬ nI 9 < nI (a - k) from ⟨nI_nlt c4.1 (by omega), nI_nlt c4.2 (by decide)⟩), if_neg (by decide), bM_next_147, bM_next_169, if_pos c4]
      refine ⟨_, _, rfl, ⟨?_, ?_, fun _ => ?_, fun z => (by cases z), fun z => (by cases z)⟩, FS7_z2 hF3 (by omega), FS7_r⟩
      · rw [z2_at]
      · rw [z2a, if_neg (by omega), z2a, if_neg (by omega), z2a, if_neg (by omega), z2_at]
      · rw [z2a, if_neg (by omega), z2_at]
    · rw [decide_eq_false (show ¬ (¬ nI (a - k) < nI 2 ∧ ¬ nI 9 < nI (a - k)) from fun z => by
        by_cases g : a - k < 2
        · exact z.1 (nI_lt g (by decide))
        · exact z.2 (nI_lt (by omega) (by omega))), if_pos (by decide), bM_next_169, if_neg c4]
      refine ⟨_, _, rfl, ⟨?_, ?_, fun z => absurd rfl z, fun z => (by cases z), fun z => (by cases z)⟩, hF3, FS7_r⟩
      · rw [z2a, if_neg (by omega), z2_at]
      · rw [z2a, if_neg (by omega), z2a, if_neg (by omega), z2_at]
  rw [if_neg (fun z => c3 ((rb_e 58 (by decide) _ (by omega)).mp z)), if_neg c3]
  have hrun : isAn (t k) = true → ∃ J L', zcV (EV ρ (d + 2) 19 0 [.ref 257, .int (nI k), zU, zU, zU] [] (mk c R (z2 (z2 (z2 I 257 24 (nI k)) 257 23 (nI 5)) 257 25 (nI (k + 1))) L)) (fun s1 => EV ρ (d + 2 + 1) 18 169 [zU, zU, zU] [] s1) = some ([], mk c R J L') ∧ TkR (if (slc t k (scn (fun i => isAn (qy n t i)) (n - k) k)).all isLt = true ∧ 1 ≤ scn (fun i => isAn (qy n t i)) (n - k) k - k ∧ scn (fun i => isAn (qy n t i)) (n - k) k - k ≤ 7 then 1 else if (slc t k (scn (fun i => isAn (qy n t i)) (n - k) k)).all isDg = true ∧ 1 ≤ scn (fun i => isAn (qy n t i)) (n - k) k - k ∧ scn (fun i => isAn (qy n t i)) (n - k) k - k ≤ 2 then 2 else 5, k, scn (fun i => isAn (qy n t i)) (n - k) k, slc t k (scn (fun i => isAn (qy n t i)) (n - k) k)) J L' ∧ FS7 I J ∧ FS7 L L' := by
    intro hA
    rw [bM_runs_0, bM_runs_9, bM_runs_14, z2_c2 (by decide), z2_zz]
    obtain ⟨J, L', b1, b2, b3, b4, b5, b6, b7, b8⟩ := ru_loop (ρ := ρ) (d := d) (c := c) (R := R) (n := n) (t := t) (k := k) (n - k) k (z2 (z2 (z2 (z2 I 257 24 (nI k)) 257 23 (nI 5)) 257 25 (nI k)) 257 27 (nI 0)) (z2 L 257 26 (lN 0)) rfl (Nat.le_refl _) (by omega) (TP_to h (FS7_z2 (FS7_z2 hF (by omega)) (by omega))) (by rw [z2a, if_neg (by omega), z2_at]) (fun _ => by rw [z2_at, slc_0]; rfl) (fun _ => by rw [z2_at, slc_0]; rfl) (by rw [z2a, if_neg (by omega), z2a, if_neg (by omega), z2_at])
    have hs : scn (fun i => isAn (qy n t i)) (n - k) k = scn (fun i => isAn (qy n t i)) (n - k - 1) (k + 1) := by
      rw [show n - k = (n - k - 1) + 1 from by omega]
      show (if isAn (qy n t k) = true then _ else _) = _
      rw [hq, if_pos hA]
      rfl
    have ha := scn_le (fun i => isAn (qy n t i)) (n - k - 1) (k + 1)
    rw [← hs] at ha
    generalize scn (fun i => isAn (qy n t i)) (n - k) k = a at b1 b2 b3 b4 b5 b6 b7 b8 ha
    rw [slc_0, show ([] : List Nat).all isLt = true from rfl, show ([] : List Nat).all isDg = true from rfl] at b1
    rw [show nI 1 = bo true from rfl, b1, zcv, bM_next_169]
    have hex : (slc t k a).all isLt = true → (slc t k a).all isDg = true → False := fun g1 g2 => by
      have h1 := isLt_i (List.all_eq_true.mp g1 _ (slc_in (t := t) (i := k) (Nat.le_refl _) (by omega)))
      have h2 := isDg_i (List.all_eq_true.mp g2 _ (slc_in (t := t) (i := k) (Nat.le_refl _) (by omega)))
      omega
    have ek : (if (slc t k a).all isDg = true ∧ a - k ≤ 2 then 2 else if (slc t k a).all isLt = true ∧ a - k ≤ 7 then 1 else 5) = (if (slc t k a).all isLt = true ∧ 1 ≤ a - k ∧ a - k ≤ 7 then 1 else if (slc t k a).all isDg = true ∧ 1 ≤ a - k ∧ a - k ≤ 2 then 2 else 5) := by
      by_cases g1 : (slc t k a).all isLt = true ∧ a - k ≤ 7
      · rw [if_neg (fun z => hex g1.1 z.1), if_pos g1, if_pos ⟨g1.1, by omega, g1.2⟩]
      · rw [if_neg g1, if_neg (show ¬ ((slc t k a).all isLt = true ∧ 1 ≤ a - k ∧ a - k ≤ 7) from fun z => g1 ⟨z.1, z.2.2⟩)]
        by_cases g2 : (slc t k a).all isDg = true ∧ a - k ≤ 2
        · rw [if_pos g2, if_pos ⟨g2.1, by omega, g2.2⟩]
        · rw [if_neg g2, if_neg (fun z => g2 ⟨z.1, z.2.2⟩)]
    rw [ek] at b6
    refine ⟨J, L', rfl, ⟨b6, ?_, fun _ => b5, fun z => ?_, fun z => ?_⟩, FS7_t (FS7_z2 (FS7_z2 hF (by omega)) (by omega)) b2, FS7_t (FS7_z2 FS7_r (by omega)) b3⟩
    · rw [b4, z2a, if_neg (by omega), z2a, if_neg (by omega), z2a, if_neg (by omega), z2_at]
    · have z' : (if (slc t k a).all isLt = true ∧ 1 ≤ a - k ∧ a - k ≤ 7 then 1 else if (slc t k a).all isDg = true ∧ 1 ≤ a - k ∧ a - k ≤ 2 then 2 else 5) = 1 := z
      split at z'
      · rename_i g; exact b7 (by omega)
      · split at z' <;> cases z'
    · have z' : (if (slc t k a).all isLt = true ∧ 1 ≤ a - k ∧ a - k ≤ 7 then 1 else if (slc t k a).all isDg = true ∧ 1 ≤ a - k ∧ a - k ≤ 2 then 2 else 5) = 2 := z
      split at z'
      · cases z'
      · split at z'
        · rename_i g; exact b8 (by omega)
        · cases z'
  rw [M_isLetter_e (by omega), zci, bM_next_154]
  cases e1 : isLt (t k)
  · rw [if_pos (by decide), M_isDigit_e (by omega), zci, bM_next_161]
    cases e2 : isDg (t k)
    · have eA : ¬ isAn (t k) = true := by unfold isAn; rw [e1, e2]; decide
      have hs : scn (fun i => isAn (qy n t i)) (n - k) k = k := by
        rw [show n - k = (n - k - 1) + 1 from by omega]
        show (if isAn (qy n t k) = true then _ else _) = _
        rw [hq, if_neg eA]
      rw [if_pos (by decide), bM_next_169, hs, if_neg (fun z => by omega), if_neg (fun z => by omega)]
      refine ⟨_, _, rfl, ⟨?_, ?_, fun z => absurd rfl z, fun z => (by cases z), fun z => (by cases z)⟩, hF2, FS7_r⟩
      · rw [z2a, if_neg (by omega), z2_at]
      · rw [z2a, if_neg (by omega), z2a, if_neg (by omega), z2_at]
    · rw [if_neg (by decide)]
      exact hrun (by unfold isAn; rw [e2, Bool.or_true])
  · rw [if_neg (by decide)]
    exact hrun (by unfold isAn; rw [e1]; rfl)
end MSTEP
