-- THE COMPONENT'S TOKENS
/-- the component's tape -/
def TC (n : Nat) (t : Nat → Nat) (I : Nat → Nat → Int32) : Prop := I 1 1 = nI n ∧ n ≤ 648 ∧ ∀ i, i < n → I 2 i = sb (t i) ∧ t i < 256
theorem TC_z2 {n : Nat} {t : Nat → Nat} {I : Nat → Nat → Int32} {q j : Nat} {v : Int32} (hq : 2 < q) (h : TC n t I) : TC n t (z2 I q j v) := by
  refine ⟨?_, h.2.1, fun i hi => ?_⟩
  · rw [z2_ne (by omega)]; exact h.1
  · rw [z2_ne (by omega)]; exact h.2.2 i hi
theorem TC_to {n : Nat} {t : Nat → Nat} {I J : Nat → Nat → Int32} (h : TC n t I) (h1 : J 1 = I 1) (h2 : J 2 = I 2) : TC n t J := by
  unfold TC
  rw [h1, h2]
  exact h
/-- the component's token -/
def TkC (K : Tk) (R : Nat → Nat → Option Nat) (I : Nat → Nat → Int32) (L : Nat → Nat → Int64) : Prop := I 3 2 = nI K.1 ∧ I 3 3 = nI K.2.1 ∧ I 3 4 = nI K.2.2.1 ∧ R 3 6 = (if K.1 = 1 then (kwi K.2.2.2).map (1000 + ·) else none) ∧ (K.1 = 1 → L 3 5 = c27 K.2.2.2)
section CSTEP
variable {ρ : Nat × (Nat → Int32)} {d : Nat} {c : Nat × Nat} {R : Nat → Nat → Option Nat} {I J : Nat → Nat → Int32} {L : Nat → Nat → Int64} {n : Nat} {t : Nat → Nat}
theorem Tap_at_e (h : TC n t I) {k : Nat} (hk : k < n) : EV ρ (d + 1) 121 0 [.ref 1, .int (nI k)] [] (mk c R I L) = some ([.int (sb (t k))], mk c R I L) := by
  have := h.2.1
  rw [bTap_at_0, if_neg (nI_pos (by omega)), h.1, if_neg (nI_ge hk (by omega)), zidx_n (by omega) (by decide), (h.2.2 k hk).1]
theorem B_isLetter_e {x : Nat} (h : x < 256) : EV ρ (d + 1) 227 0 [.int (sb x)] [] (mk c R I L) = some ([.int (bo (isLt x))], mk c R I L) := by
  rw [bB_isLetter_0]
  exact bo_ite (sb_L x h)
theorem B_isDigit_e {x : Nat} (h : x < 256) : EV ρ (d + 1) 228 0 [.int (sb x)] [] (mk c R I L) = some ([.int (bo (isDg x))], mk c R I L) := by
  rw [bB_isDigit_0]
  exact bo_ite (sb_D x h)
theorem bo_t {b : Bool} (h : b = true) : ¬ bo b = 0 := by rw [h]; decide
theorem bo_f {b : Bool} (h : b = false) : bo b = 0 := by rw [h]; decide
theorem Par_isSign_e {x : Nat} (h : x < 256) : EV ρ (d + 2) 150 0 [.int (sb x)] [] (mk c R I L) = some ([.int (bo (isSg x))], mk c R I L) := by
  rw [bPar_isPatternSign_0, B_isLetter_e h, zci, bPar_isPatternSign_4]
  unfold isSg
  cases e1 : isLt x
  · rw [if_pos (by decide), B_isDigit_e h, zci, bPar_isPatternSign_11]
    cases e2 : isDg x
    · rw [if_pos (by decide)]
      by_cases e3 : x = 63
      · rw [if_pos ((sb_e 63 (by decide) x h).mpr e3), e3]; rfl
      · rw [if_neg (fun z => e3 ((sb_e 63 (by decide) x h).mp z))]
        by_cases e4 : x = 42
        · rw [if_pos ((sb_e 42 (by decide) x h).mpr e4), e4]; rfl
        · rw [if_neg (fun z => e4 ((sb_e 42 (by decide) x h).mp z)), show (x == 63) = false from beq_eq_false_iff_ne.mpr e3, show (x == 42) = false from beq_eq_false_iff_ne.mpr e4]; rfl
    · rw [if_neg (by decide)]; rfl
  · rw [if_neg (by decide)]; rfl
theorem wc_loop (h : TC n t I) {a b : Nat} (hb : b ≤ n) : ∀ (m i : Nat), b - i = m → a ≤ i → i ≤ b → (slc t a i).all isLt = true → EV ρ (d + 2) 122 15 [.ref 1, zU, .int (nI b), .long (c27 (slc t a i)), zU, .int (nI i)] [] (mk c R I L) = some ([.long (if (slc t a b).all isLt = true then c27 (slc t a b) else lN 0)], mk c R I L) := by
  intro m
  have hn := h.2.1
  induction m with
  | zero =>
    intro i hm ha hi hl
    have e : i = b := by omega
    subst e
    rw [bTap_wordCode_15, if_pos (nI_le (Nat.le_refl _) (by omega)), if_pos hl]
  | succ m ih =>
    intro i hm ha hi hl
    have hti := (h.2.2 i (by omega)).2
    rw [bTap_wordCode_15, if_neg (nI_ge (by omega) (by omega)), Tap_at_e h (by omega), zci, bTap_wordCode_27, B_isLetter_e hti, zci, bTap_wordCode_30]
    by_cases e : isLt (t i) = true
    · have hx := isLt_i e
      have hs : (slc t a (i + 1)).all isLt = true := by rw [slc_s t ha, List.all_append, hl]; show (true && (isLt (t i) && true)) = true; rw [e]; rfl
      rw [if_neg (bo_t e), Tap_at_e h (by omega), zci, bTap_wordCode_42, bTap_behind_0, zcl, bTap_wordCode_45, sb_n (by omega), pk_sub (by omega), nI_add, nI_l (by omega), lN_mul, lN_add, nI_add]
      have := ih (i + 1) (by omega) (by omega) (by omega) hs
      unfold c27 at this ⊢
      rw [show cd 27 96 (slc t a (i + 1)) = cd 27 96 (slc t a i) * 27 + (t i - 97 + 1) from by rw [slc_s t ha, cd_s]; omega] at this
      exact this
    · have e' : isLt (t i) = false := by simpa using e
      rw [if_pos (bo_f e'), if_neg]
      intro z
      exact e (List.all_eq_true.mp z _ (slc_in ha (by omega)))
theorem Tap_wordCode_e (h : TC n t I) {a b : Nat} (ha : a ≤ b) (hb : b ≤ n) : EV ρ (d + 2) 122 0 [.ref 1, .int (nI a), .int (nI b), zU, zU, zU] [] (mk c R I L) = some ([.long (if (slc t a b).all isLt = true ∧ b - a ≤ 7 then c27 (slc t a b) else lN 0)], mk c R I L) := by
  have hn := h.2.1
  rw [bTap_wordCode_0, pk_sub ha]
  by_cases e : b - a ≤ 7
  · rw [if_pos (nI_le e (by decide)), show lN 0 = c27 (slc t a a) from by rw [slc_0]; rfl, wc_loop h hb _ a rfl (Nat.le_refl _) ha (by rw [slc_0]; rfl)]
    by_cases e2 : (slc t a b).all isLt = true
    · rw [if_pos e2, if_pos ⟨e2, e⟩]
    · rw [if_neg e2, if_neg (fun z => e2 z.1), slc_0]; rfl
  · rw [if_neg (nI_ge (by omega) (by omega)), if_neg (fun z => e z.2)]
theorem sp_loop (h : TC n t I) {k : Nat} (h3 : I 3 3 = nI k) : ∀ (m i : Nat), n - i = m → k ≤ i → i ≤ n → EV ρ (d + 3) 149 10 [.ref 3, .int (nI ((slc t k i).countP isDg)), zU] [] (mk c R (z2 I 3 4 (nI i)) L) = EV ρ (d + 3) 149 112 [.ref 3, .int (nI ((slc t k (scn (fun i => isAn (qy n t i)) m i)).countP isDg)), zU] [.long (if (slc t k (scn (fun i => isAn (qy n t i)) m i)).all isLt = true ∧ scn (fun i => isAn (qy n t i)) m i - k ≤ 7 then c27 (slc t k (scn (fun i => isAn (qy n t i)) m i)) else lN 0), .ref 3] (mk c R (z2 I 3 4 (nI (scn (fun i => isAn (qy n t i)) m i))) L) := by
  intro m
  have hn := h.2.1
  induction m with
  | zero =>
    intro i hm hk hi
    have e : i = n := by omega
    subst e
    rw [bPar_stepPlain_10, z2_at, (TC_z2 (by decide) h).1, if_pos (nI_le (Nat.le_refl _) (by omega)), z2a, if_neg (by omega), h3, Tap_wordCode_e (TC_z2 (by decide) h) hk hi, zcl]
    rfl
  | succ m ih =>
    intro i hm hk hi
    have hti := (h.2.2 i (by omega)).2
    have hT := TC_z2 (j := 4) (v := nI i) (show 2 < 3 by decide) h
    have hgo : ∀ (y : Bool), isDg (t i) = y → EV ρ (d + 3) 149 70 [.ref 3, zU, zU] [.int (sb (t i)), .int (nI ((slc t k i).countP isDg))] (mk c R (z2 I 3 4 (nI i)) L) = EV ρ (d + 3) 149 10 [.ref 3, .int (nI ((slc t k (i + 1)).countP isDg)), zU] [] (mk c R (z2 I 3 4 (nI (i + 1))) L) := by
      intro y hy
      have ec : (slc t k (i + 1)).countP isDg = (slc t k i).countP isDg + y.toNat := by
        rw [slc_s t hk, List.countP_append]
        congr 1
        show List.countP isDg [t i] = y.toNat
        rw [List.countP_cons, hy]
        cases y <;> rfl
      rw [bPar_stepPlain_70, B_isDigit_e hti, zci, bPar_stepPlain_73, z2_at, z2_zz, hy, ec]
      cases y
      · rw [if_pos (by decide), bPar_stepPlain_93, nI_add, nI_add]; rfl
      · rw [if_neg (by decide), bPar_stepPlain_93, nI_add, nI_add]; rfl
    have hs : scn (fun i => isAn (qy n t i)) (m + 1) i = if isAn (qy n t i) = true then scn (fun i => isAn (qy n t i)) m (i + 1) else i := rfl
    rw [qy_lt (by omega)] at hs
    rw [bPar_stepPlain_10, z2_at, hT.1, if_neg (nI_ge (by omega) (by omega)), Tap_at_e hT (by omega), zci, bPar_stepPlain_35, B_isLetter_e hti, zci, bPar_stepPlain_38, z2_at]
    cases e1 : isLt (t i)
    · rw [if_pos (by decide), Tap_at_e hT (by omega), zci, bPar_stepPlain_52, B_isDigit_e hti, zci, bPar_stepPlain_55, z2_at]
      cases e2 : isDg (t i)
      · have ea : ¬ isAn (t i) = true := by unfold isAn; rw [e1, e2]; decide
        rw [if_neg ea] at hs
        rw [if_pos (by decide), z2a, if_neg (by omega), h3, Tap_wordCode_e hT hk (by omega), zcl, hs]
      · have ea : isAn (t i) = true := by unfold isAn; rw [e2, Bool.or_true]
        rw [if_pos ea] at hs
        rw [if_neg (by decide), Tap_at_e hT (by omega), zci, hgo _ e2, hs]
        exact ih (i + 1) (by omega) (by omega) (by omega)
    · have ea : isAn (t i) = true := by unfold isAn; rw [e1]; rfl
      rw [if_pos ea] at hs
      rw [if_neg (by decide), Tap_at_e hT (by omega), zci, hgo _ rfl, hs]
      exact ih (i + 1) (by omega) (by omega) (by omega)
theorem ss_loop (h : TC n t I) : ∀ (m i : Nat), n - i = m → i ≤ n → ∃ x, EV ρ (d + 3) 148 0 [.ref 3, zU] [] (mk c R (z2 I 3 4 (nI i)) L) = x ∧ x = (if nI (scn (fun i => isSg (qy n t i)) m i) - I 3 3 - nI 1 < nI 1 then some ([], mk c R (z2 (z2 I 3 4 (nI (scn (fun i => isSg (qy n t i)) m i))) 3 2 (nI 5)) L) else if nI 8 < nI (scn (fun i => isSg (qy n t i)) m i) - I 3 3 - nI 1 then some ([], mk c R (z2 (z2 I 3 4 (nI (scn (fun i => isSg (qy n t i)) m i))) 3 2 (nI 5)) L) else some ([], mk c R (z2 (z2 I 3 4 (nI (scn (fun i => isSg (qy n t i)) m i))) 3 2 (nI 4)) L)) := by
  intro m
  have hn := h.2.1
  induction m with
  | zero =>
    intro i hm hi
    have e : i = n := by omega
    subst e
    refine ⟨_, rfl, ?_⟩
    rw [bPar_stepSigns_0, z2_at, (TC_z2 (by decide) h).1, if_pos (nI_le (Nat.le_refl _) (by omega)), show z2 I 3 4 (nI i) 3 3 = I 3 3 from by rw [z2a, if_neg (by omega)], bPar_stepSigns_76, bPar_stepSigns_76]
    rfl
  | succ m ih =>
    intro i hm hi
    have hti := (h.2.2 i (by omega)).2
    have hT := TC_z2 (j := 4) (v := nI i) (show 2 < 3 by decide) h
    have hs : scn (fun i => isSg (qy n t i)) (m + 1) i = if isSg (qy n t i) = true then scn (fun i => isSg (qy n t i)) m (i + 1) else i := rfl
    rw [qy_lt (by omega)] at hs
    refine ⟨_, rfl, ?_⟩
    rw [bPar_stepSigns_0, z2_at, hT.1, if_neg (nI_ge (by omega) (by omega)), Tap_at_e hT (by omega), zci, bPar_stepSigns_25, Par_isSign_e hti, zci, bPar_stepSigns_28, z2_at, z2_zz, nI_add]
    cases e1 : isSg (t i)
    · rw [if_neg (by rw [e1]; decide)] at hs
      rw [if_pos (by decide), show z2 I 3 4 (nI i) 3 3 = I 3 3 from by rw [z2a, if_neg (by omega)], bPar_stepSigns_76, bPar_stepSigns_76, hs]
    · rw [if_pos e1] at hs
      rw [if_neg (by decide), bPar_stepSigns_41, hs]
      obtain ⟨x, hx, ex⟩ := ih (i + 1) (by omega) (by omega)
      exact hx.trans ex
theorem cP_all {l : List Nat} {p : Nat → Bool} : l.countP p = l.length ↔ l.all p = true := by
  rw [List.countP_eq_length, List.all_eq_true]
/-- behind a step: the token's fields alone -/
def FS3 {α : Type} (I J : Nat → Nat → α) : Prop := ∀ q j, ¬ (q = 3 ∧ 2 ≤ j ∧ j ≤ 6) → J q j = I q j
theorem FS3_z2 {α : Type} {I J : Nat → Nat → α} {j : Nat} {v : α} (h : FS3 I J) (hj : 2 ≤ j ∧ j ≤ 6) : FS3 I (z2 J 3 j v) := fun a b hab => by
  rw [z2a, if_neg (by omega)]
  exact h a b hab
theorem sk_loop (h : TC n t I) : ∀ (m i : Nat), n - i = m → i ≤ n → EV ρ (d + 4) 147 18 [.ref 3] [] (mk c R (z2 I 3 3 (nI i)) L) = EV ρ (d + 4) 147 87 [.ref 3] [] (mk c R (z2 (z2 I 3 3 (nI (scn (fun i => isBl (qy n t i)) m i))) 3 4 (nI (scn (fun i => isBl (qy n t i)) m i + 1))) L) := by
  intro m
  have hn := h.2.1
  induction m with
  | zero =>
    intro i hm hi
    have e : i = n := by omega
    subst e
    rw [bPar_step_18, (TC_z2 (by decide) h).1, z2_at, if_pos (nI_le (Nat.le_refl _) (by omega)), nI_add]
    rfl
  | succ m ih =>
    intro i hm hi
    have hti := (h.2.2 i (by omega)).2
    have hT := TC_z2 (j := 3) (v := nI i) (show 2 < 3 by decide) h
    have hs : scn (fun i => isBl (qy n t i)) (m + 1) i = if isBl (qy n t i) = true then scn (fun i => isBl (qy n t i)) m (i + 1) else i := rfl
    rw [qy_lt (by omega)] at hs
    rw [bPar_step_18, z2_at, hT.1, if_neg (nI_ge (by omega) (by omega)), Tap_at_e hT (by omega), zci, bPar_step_43, z2_at, nI_add, z2_zz]
    by_cases e1 : t i = 32
    · have ea : isBl (t i) = true := by rw [e1]; rfl
      rw [if_pos ea] at hs
      rw [if_pos ((sb_e 32 (by decide) _ hti).mpr e1), bPar_step_74, hs]
      exact ih (i + 1) (by omega) (by omega)
    · rw [if_neg (fun z => e1 ((sb_e 32 (by decide) _ hti).mp z)), Tap_at_e hT (by omega), zci, bPar_step_59, z2_at, nI_add, z2_zz]
      by_cases e2 : t i = 10
      · have ea : isBl (t i) = true := by rw [e2]; rfl
        rw [if_pos ea] at hs
        rw [if_pos ((sb_e 10 (by decide) _ hti).mpr e2), bPar_step_74, hs]
        exact ih (i + 1) (by omega) (by omega)
      · have ea : ¬ isBl (t i) = true := by unfold isBl; rw [beq_eq_false_iff_ne.mpr e1, beq_eq_false_iff_ne.mpr e2]; decide
        rw [if_neg ea] at hs
        rw [if_neg (fun z => e2 ((sb_e 10 (by decide) _ hti).mp z)), hs]
theorem c27_0 {w : List Nat} (h : wrd w) : ¬ c27 w = lN 0 := by
  have := cd27_lt h
  rw [pk_lEQ (by omega) (by decide)]
  intro e
  have e2 : w = [] := cd_inj (B := 27) (o := 96) _ w [] rfl (fun x hx => by have := isLt_i (h.1 x hx); omega) (fun x hx => by cases hx) e
  have := h.2.1
  rw [e2] at this
  cases this
theorem Par_step_e (h : TC n t I) {e : Nat} (he : e ≤ n) (h4 : I 3 4 = nI e) : ∃ R' J L', EV ρ (d + 4) 147 0 [.ref 3] [] (mk c R I L) = some ([], mk c R' J L') ∧ TkC (tok n t e) R' J L' ∧ FS3 I J ∧ FS3 R R' ∧ FS3 L L' := by
  have hn := h.2.1
  have hR : FS3 R (z2 R 3 6 none) := FS3_z2 (fun _ _ _ => rfl) (by omega)
  have hL : FS3 L (z2 L 3 5 (lN 0)) := FS3_z2 (fun _ _ _ => rfl) (by omega)
  rw [bPar_step_0, bPar_step_5, bPar_step_10, h4, sk_loop h _ e rfl he]
  have hk0 := scn_le (fun i => isBl (qy n t i)) (n - e) e
  unfold tok
  generalize scn (fun i => isBl (qy n t i)) (n - e) e = k at hk0
  simp only
  have hI : FS3 I (z2 (z2 I 3 3 (nI k)) 3 4 (nI (k + 1))) := FS3_z2 (FS3_z2 (fun _ _ _ => rfl) (by omega)) (by omega)
  have hT : TC n t (z2 (z2 I 3 3 (nI k)) 3 4 (nI (k + 1))) := TC_z2 (by decide) (TC_z2 (by decide) h)
  have h33 : z2 (z2 I 3 3 (nI k)) 3 4 (nI (k + 1)) 3 3 = nI k := by rw [z2a, if_neg (by omega), z2_at]
  rw [bPar_step_87, hT.1, h33]
  by_cases c1 : n ≤ k
  · have ek : k = n := by omega
    subst ek
    rw [if_neg (nI_nlt (Nat.le_refl _) (by omega)), if_pos c1, bPar_step_112, z2_at, bPar_step_120, bPar_step_125, bPar_step_179]
    refine ⟨_, _, _, rfl, ⟨?_, ?_, ?_, ?_, fun z => (by cases z)⟩, FS3_z2 (FS3_z2 (FS3_z2 hI (by omega)) (by omega)) (by omega), hR, hL⟩
    · rw [z2_at]
    · rw [z2a, if_neg (by omega), z2a, if_neg (by omega), z2_at]
    · rw [z2a, if_neg (by omega), z2_at]
    · rw [z2_at]; rfl
  rw [if_pos (nI_lt (by omega) (by omega)), if_neg c1, Tap_at_e hT (by omega), zci, bPar_step_139]
  have htk := (h.2.2 k (by omega)).2
  by_cases c2 : t k = 59
  · rw [if_pos ((sb_e 59 (by decide) _ htk).mpr c2), if_pos c2, bPar_step_149, bPar_step_179]
    refine ⟨_, _, _, rfl, ⟨?_, ?_, ?_, ?_, fun z => (by cases z)⟩, FS3_z2 hI (by omega), hR, hL⟩
    · rw [z2_at]
    · rw [z2a, if_neg (by omega)]; exact h33
    · rw [z2a, if_neg (by omega), z2_at]
    · rw [z2_at]; rfl
  rw [if_neg (fun z => c2 ((sb_e 59 (by decide) _ htk).mp z)), if_neg c2, h33, Tap_at_e hT (by omega), zci, bPar_step_163]
  by_cases c3 : t k = 58
  · rw [if_pos ((sb_e 58 (by decide) _ htk).mpr c3), if_pos c3]
    obtain ⟨x, hx, ex⟩ := ss_loop (ρ := ρ) (d := d) (c := c) (R := z2 R 3 6 none) (L := z2 L 3 5 (lN 0)) (TC_z2 (j := 3) (v := nI k) (show 2 < 3 by decide) h) (n - (k + 1)) (k + 1) rfl (by omega)
    have ha := scn_le (fun i => isSg (qy n t i)) (n - (k + 1)) (k + 1)
    generalize scn (fun i => isSg (qy n t i)) (n - (k + 1)) (k + 1) = a at ex ha
    rw [z2_at, pk_sub (by omega), pk_sub (by omega)] at ex
    rw [hx, ex]
    by_cases c4 : 2 ≤ a - k ∧ a - k ≤ 9
    · rw [if_neg (nI_nlt (by omega) (by omega)), if_neg (nI_nlt (by omega) (by omega)), zcv, bPar_step_172, bPar_step_179, if_pos c4]
      refine ⟨_, _, _, rfl, ⟨?_, ?_, ?_, ?_, fun z => (by cases z)⟩, FS3_z2 (FS3_z2 (FS3_z2 (fun _ _ _ => rfl) (by omega)) (by omega)) (by omega), hR, hL⟩
      · rw [z2_at]
      · rw [z2a, if_neg (by omega), z2a, if_neg (by omega), z2_at]
      · rw [z2a, if_neg (by omega), z2_at]
      · rw [z2_at]; rfl
    · have e2 : (if nI (a - k - 1) < nI 1 then some ([], mk c (z2 R 3 6 none) (z2 (z2 (z2 I 3 3 (nI k)) 3 4 (nI a)) 3 2 (nI 5)) (z2 L 3 5 (lN 0))) else if nI 8 < nI (a - k - 1) then some ([], mk c (z2 R 3 6 none) (z2 (z2 (z2 I 3 3 (nI k)) 3 4 (nI a)) 3 2 (nI 5)) (z2 L 3 5 (lN 0))) else some ([], mk c (z2 R 3 6 none) (z2 (z2 (z2 I 3 3 (nI k)) 3 4 (nI a)) 3 2 (nI 4)) (z2 L 3 5 (lN 0)))) = (some ([], mk c (z2 R 3 6 none) (z2 (z2 (z2 I 3 3 (nI k)) 3 4 (nI a)) 3 2 (nI 5)) (z2 L 3 5 (lN 0))) : Rs) := by
        by_cases c5 : a - k - 1 < 1
        · rw [if_pos (nI_lt c5 (by decide))]
        · rw [if_neg (nI_nlt (by omega) (by omega)), if_pos (nI_lt (by omega) (by omega))]
      rw [e2, zcv, bPar_step_172, bPar_step_179, if_neg c4]
      refine ⟨_, _, _, rfl, ⟨?_, ?_, ?_, ?_, fun z => (by cases z)⟩, FS3_z2 (FS3_z2 (FS3_z2 (fun _ _ _ => rfl) (by omega)) (by omega)) (by omega), hR, hL⟩
      · rw [z2_at]
      · rw [z2a, if_neg (by omega), z2a, if_neg (by omega), z2_at]
      · rw [z2a, if_neg (by omega), z2_at]
      · rw [z2_at]; rfl
  rw [if_neg (fun z => c3 ((sb_e 58 (by decide) _ htk).mp z)), if_neg c3, bPar_stepPlain_0, h33, z2_zz, bPar_stepPlain_8]
  have hp := sp_loop (ρ := ρ) (d := d) (c := c) (R := z2 R 3 6 none) (L := z2 L 3 5 (lN 0)) (TC_z2 (j := 3) (v := nI k) (show 2 < 3 by decide) h) (k := k) (by rw [z2_at]) (n - k) k rfl (Nat.le_refl _) (by omega)
  rw [slc_0] at hp
  have ha := scn_le (fun i => isAn (qy n t i)) (n - k) k
  generalize scn (fun i => isAn (qy n t i)) (n - k) k = a at hp ha
  rw [show nI (List.countP isDg []) = nI 0 from rfl] at hp
  rw [hp, bPar_stepPlain_112, bPar_stepPlain_115, z2_at]
  by_cases c4 : (slc t k a).all isLt = true ∧ 1 ≤ a - k ∧ a - k ≤ 7
  · have hw : wrd (slc t k a) := ⟨fun x hx => List.all_eq_true.mp c4.1 x hx, by rw [slc_len]; omega, by rw [slc_len]; omega⟩
    rw [if_pos c4, if_pos (show (slc t k a).all isLt = true ∧ a - k ≤ 7 from ⟨c4.1, c4.2.2⟩), if_neg (fun z => c27_0 hw ((lg_cmp_eq _ _).mp z)), bPar_stepPlain_129, z2_at, zkey_e hw]
    have hz : ∀ (f : Option Nat → Rs), znul (zr ((kwi (slc t k a)).map (1000 + ·))) f = f ((kwi (slc t k a)).map (1000 + ·)) := fun f => by cases kwi (slc t k a) <;> rfl
    rw [hz, bPar_stepPlain_140, bPar_stepPlain_185, zcv, bPar_step_179]
    refine ⟨_, _, _, rfl, ⟨?_, ?_, ?_, ?_, fun _ => ?_⟩, FS3_z2 (FS3_z2 (FS3_z2 (fun _ _ _ => rfl) (by omega)) (by omega)) (by omega), FS3_z2 hR (by omega), FS3_z2 hL (by omega)⟩
    · rw [z2_at]
    · rw [z2a, if_neg (by omega), z2a, if_neg (by omega), z2_at]
    · rw [z2a, if_neg (by omega), z2_at]
    · rw [z2_at]; rfl
    · rw [z2_at]
  · rw [if_neg c4]
    have hc0 : lg_cmp (if (slc t k a).all isLt = true ∧ a - k ≤ 7 then c27 (slc t k a) else lN 0) (lN 0) = 0 := by
      rw [lg_cmp_eq]
      by_cases c5 : (slc t k a).all isLt = true ∧ a - k ≤ 7
      · have : a = k := by
          have : ¬ 1 ≤ a - k := fun z => c4 ⟨c5.1, z, c5.2⟩
          omega
        subst this
        rw [if_pos c5, slc_0]
        rfl
      · rw [if_neg c5]
    rw [if_pos hc0, z2_at, show z2 (z2 I 3 3 (nI k)) 3 4 (nI a) 3 3 = nI k from by rw [z2a, if_neg (by omega), z2_at], pk_sub (by omega)]
    have hcl : (slc t k a).countP isDg ≤ a - k := by have := List.countP_le_length (p := isDg) (l := slc t k a); rw [slc_len] at this; exact this
    by_cases c5 : (slc t k a).all isDg = true ∧ 1 ≤ a - k ∧ a - k ≤ 2
    · have ec : (slc t k a).countP isDg = a - k := by rw [cP_all.mpr c5.1, slc_len]
      rw [if_pos c5, ec, if_pos rfl, if_neg (nI_nlt (by omega) (by omega)), if_neg (nI_nlt (by omega) (by omega)), bPar_stepPlain_185, zcv, bPar_step_179]
      refine ⟨_, _, _, rfl, ⟨?_, ?_, ?_, ?_, fun z => (by cases z)⟩, FS3_z2 (FS3_z2 (FS3_z2 (fun _ _ _ => rfl) (by omega)) (by omega)) (by omega), hR, FS3_z2 hL (by omega)⟩
      · rw [z2_at]
      · rw [z2a, if_neg (by omega), z2a, if_neg (by omega), z2_at]
      · rw [z2a, if_neg (by omega), z2_at]
      · rw [z2_at]; rfl
    · rw [if_neg c5]
      have e5 : ∀ (x y : Rs), (if nI ((slc t k a).countP isDg) = nI (a - k) then (if nI ((slc t k a).countP isDg) < nI 1 then x else if nI 2 < nI ((slc t k a).countP isDg) then x else y) else x) = x := by
        intro x y
        by_cases g1 : (slc t k a).countP isDg = a - k
        · have ga : (slc t k a).all isDg = true := cP_all.mp (by rw [g1, slc_len])
          rw [g1, if_pos rfl]
          by_cases g2 : a - k < 1
          · rw [if_pos (nI_lt g2 (by decide))]
          · have : ¬ a - k ≤ 2 := fun z => c5 ⟨ga, by omega, z⟩
            rw [if_neg (nI_nlt (by omega) (by omega)), if_pos (nI_lt (by omega) (by omega))]
        · rw [if_neg (fun z => g1 ((nI_eq (by omega) (by omega)).mp z))]
      rw [e5, bPar_stepPlain_185, zcv, bPar_step_179]
      refine ⟨_, _, _, rfl, ⟨?_, ?_, ?_, ?_, fun z => (by cases z)⟩, FS3_z2 (FS3_z2 (FS3_z2 (fun _ _ _ => rfl) (by omega)) (by omega)) (by omega), hR, FS3_z2 hL (by omega)⟩
      · rw [z2_at]
      · rw [z2a, if_neg (by omega), z2a, if_neg (by omega), z2_at]
      · rw [z2a, if_neg (by omega), z2_at]
      · rw [z2_at]; rfl
end CSTEP
