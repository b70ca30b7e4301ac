-- THE COMPONENT READS: its state, words, names
def RCc (Q : QT) (p : Nat) (I : Nat → Nat → Int32) : Prop := I p 0 = nI Q.1.1 ∧ I p 1 = nI Q.1.2.1 ∧ I p 2 = nI Q.1.2.2
def RCn (m u : Nat) (Q : QT) (p : Nat) (L : Nat → Nat → Int64) : Prop := (∀ x, x < m → L (p + 1) x = c27 (Q.2.2.2.2.1 x)) ∧ (∀ x, x < u → L (p + 2) x = c27 (Q.2.2.2.2.2.2.1 x)) ∧ (∀ x, x < Q.1.2.2 → L (p + 3) x = c27 (Q.2.2.2.2.2.2.2.2 x))
/-- a row of signs stands on the tape from a to b -/
def OnT (n : Nat) (t : Nat → Nat) (w : List Nat) (a b : Int32) : Prop := ∃ k, a = nI k ∧ b = nI (k + w.length) ∧ k + w.length ≤ n ∧ ∀ i z, w[i]? = some z → t (k + i) = z
def RCi (n : Nat) (t : Nat → Nat) (m : Nat) (Q : QT) (I : Nat → Nat → Int32) : Prop := ∀ x, x < m → OnT n t (Q.2.2.2.2.2.1 x) (I 4 x) (I 5 x)
def RCp (Q : QT) (p : Nat) (I : Nat → Nat → Int32) : Prop := ∀ x, x < 12 → I (p + 4) x = eO (Q.2.1 x) ∧ I (p + 5) x = pbit (Q.2.1 x)
def RCe (Q : QT) (p : Nat) (I : Nat → Nat → Int32) : Prop := ∀ x, x < 12 → I (p + 6) x = nI (Q.2.2.1 x).length ∧ (∀ k z, (Q.2.2.1 x)[k]? = some z → I (p + 7) (3 * x + k) = nI z) ∧ I (p + 8) x = bitsL (Q.2.2.1 x)
def RCt (n : Nat) (t : Nat → Nat) (Q : QT) (p : Nat) (I : Nat → Nat → Int32) : Prop := ∀ v, v < 8 → I (p + 9) v = nI (Q.2.2.2.2.2.2.2.1 v).length ∧ ∀ i w, (Q.2.2.2.2.2.2.2.1 v)[i]? = some w → OnT n t w (I 6 (3 * v + i)) (I 7 (3 * v + i))
def RCs (Q : QT) (p : Nat) (R : Nat → Nat → Option Nat) (I : Nat → Nat → Int32) : Prop := ∀ v, v < 8 → I (p + 10) v = nI (Q.2.2.2.1 v).length ∧ (∀ k z, (Q.2.2.2.1 v)[k]? = some z → R (p + 11) (6 * v + k) = some (1005 + z.1) ∧ I (p + 12) (6 * v + k) = nI z.2) ∧ I (p + 13) v = bitsL (ofk 2 (Q.2.2.2.1 v)) ∧ I (p + 14) v = bitsL (ofk 3 (Q.2.2.2.1 v))
def RCr (p : Nat) (I : Nat → Nat → Int32) : Prop := ∀ x, x < 12 → I (p + 37) x = nI 0
def RC (n : Nat) (t : Nat → Nat) (m u : Nat) (Q : QT) (p : Nat) (R : Nat → Nat → Option Nat) (I : Nat → Nat → Int32) (L : Nat → Nat → Int64) : Prop := RCc Q p I ∧ RCn m u Q p L ∧ RCi n t m Q I ∧ RCp Q p I ∧ RCe Q p I ∧ RCt n t Q p I ∧ RCs Q p R I ∧ RCr p I
/-- the component reads: at token K, no fault -/
def CS (n : Nat) (t : Nat → Nat) (m u : Nat) (Q : QT) (p : Nat) (K : Tk) (R : Nat → Nat → Option Nat) (I : Nat → Nat → Int32) (L : Nat → Nat → Int64) : Prop := TC n t I ∧ isP p ∧ R 3 1 = some p ∧ I 3 7 = nI 0 ∧ TkC K R I L ∧ RC n t m u Q p R I L
/-- what reading changes -/
def CF {α : Type} (p : Nat) (I J : Nat → Nat → α) : Prop := ∀ q, ¬ (3 ≤ q ∧ q ≤ 7) → ¬ (p ≤ q ∧ q ≤ p + 37) → J q = I q
theorem CF_r {α : Type} {p : Nat} {I : Nat → Nat → α} : CF p I I := fun _ _ _ => rfl
theorem CF_t {α : Type} {p : Nat} {I J K : Nat → Nat → α} (h : CF p I J) (h2 : CF p J K) : CF p I K := fun q h3 h4 => (h2 q h3 h4).trans (h q h3 h4)
theorem CF_z {α : Type} {p q j : Nat} {v : α} {I J : Nat → Nat → α} (h : CF p I J) (hq : (3 ≤ q ∧ q ≤ 7) ∨ (p ≤ q ∧ q ≤ p + 37)) : CF p I (z2 J q j v) := fun q' h3 h4 => by
  rw [z2_ne (by omega)]
  exact h q' h3 h4
theorem FS3_c {α : Type} {I J : Nat → Nat → α} (h : FS3 I J) {q : Nat} (hq : q ≠ 3) : J q = I q := by
  funext j
  exact h q j (fun z => hq z.1)
theorem CF_3 {α : Type} {p : Nat} {I J : Nat → Nat → α} (h : FS3 I J) : CF p I J := fun q h3 _ => FS3_c h (by omega)
theorem isP_g {p : Nat} (h : isP p) : 10 ≤ p ∧ p ≤ 48 := by unfold isP at h; omega
theorem zdpp {q : Nat} {f : Value → Rs} : zdup (zr (some q)) f = f (.ref q) := rfl
section CREAD
variable {ρ : Nat × (Nat → Int32)} {d : Nat} {c : Nat × Nat} {R R' : Nat → Nat → Option Nat} {I J : Nat → Nat → Int32} {L L' : Nat → Nat → Int64} {n : Nat} {t : Nat → Nat} {p m u : Nat} {Q : QT} {K : Tk} {e : Nat}
theorem RC_to (hp : isP p) (h : RC n t m u Q p R I L) (h1 : ∀ q, q ≠ 3 → J q = I q) (h2 : ∀ q, q ≠ 3 → R' q = R q) (h3 : ∀ q, q ≠ 3 → L' q = L q) : RC n t m u Q p R' J L' := by
  have := isP_g hp
  unfold RC RCc RCn RCi RCp RCe RCt RCs RCr at h ⊢
  rw [h1 p (by omega), h1 4 (by omega), h1 5 (by omega), h1 6 (by omega), h1 7 (by omega), h1 (p + 4) (by omega), h1 (p + 5) (by omega), h1 (p + 6) (by omega), h1 (p + 7) (by omega), h1 (p + 8) (by omega), h1 (p + 9) (by omega), h1 (p + 10) (by omega), h1 (p + 12) (by omega), h1 (p + 13) (by omega), h1 (p + 14) (by omega), h1 (p + 37) (by omega), h2 (p + 11) (by omega), h3 (p + 1) (by omega), h3 (p + 2) (by omega), h3 (p + 3) (by omega)]
  exact h
theorem CS_step (hK : TkI n t K) (h : CS n t m u Q p K R I L) : ∃ R' J L', EV ρ (d + 4) 147 0 [.ref 3] [] (mk c R I L) = some ([], mk c R' J L') ∧ CS n t m u Q p (nxK n t K) R' J L' ∧ FS3 I J ∧ FS3 R R' ∧ FS3 L L' := by
  obtain ⟨a1, a2, a3, a4, a5, a6⟩ := h
  obtain ⟨R', J, L', b1, b2, b3, b4, b5⟩ := Par_step_e (ρ := ρ) (d := d) (c := c) (R := R) (L := L) a1 hK.2.2.1 a5.2.2.1
  exact ⟨R', J, L', b1, ⟨TC_to a1 (FS3_c b3 (by decide)) (FS3_c b3 (by decide)), a2, (b4 _ _ (by omega)).trans a3, (b3 _ _ (by omega)).trans a4, b2, RC_to a2 a6 (fun q hq => FS3_c b3 hq) (fun q hq => FS3_c b4 hq) (fun q hq => FS3_c b5 hq)⟩, b3, b4, b5⟩
theorem Par_fail_e (h : TkC K R I L) (y : Nat) : EV ρ (d + 1) 136 0 [.ref 3, .int (nI y)] [] (mk c R I L) = some ([.int (nI 0)], mk c R (z2 I 3 7 (nI (er K y))) L) := by
  rw [bPar_fail_0, bPar_fail_13, h.2.1, pk_mul, nI_add]
  rfl
theorem Par_plain_e (hK : TkI n t K) (h : TkC K R I L) : EV ρ (d + 1) 146 0 [.ref 3] [] (mk c R I L) = some ([.int (bo (fre K))], mk c R I L) := by
  have := hK.1
  rw [bPar_isPlainWord_0, h.1, h.2.2.2.1]
  unfold fre
  by_cases c1 : K.1 = 1
  · rw [c1, if_pos rfl, if_pos rfl]
    cases kwi K.2.2.2 with
    | none => rfl
    | some z => rfl
  · rw [if_neg (fun z => c1 ((nI_eq (by omega) (by omega)).mp z)), show (K.1 == 1) = false from beq_eq_false_iff_ne.mpr c1]
    rfl
theorem oka_21 {q N : Nat} (h : oka q 21 N = true) : (Nat.blt q NC && Nat.ble 20 (zC q)) = true ∧ zN q = N := by
  unfold oka okc at h
  rw [Bool.and_eq_true, Bool.and_eq_true] at h
  exact ⟨by rw [Nat.eq_of_beq_eq_true h.1.2, Bool.and_eq_true]; exact ⟨h.1.1, rfl⟩, Nat.eq_of_beq_eq_true h.2⟩
theorem B_place_l {q N m : Nat} {f : Nat → List Nat} {w : List Nat} (hq : oka q 21 N = true) (hN : N < 2 ^ 20) (ha : m ≤ N) (hf : ∀ k, k < m → L q k = c27 (f k) ∧ wrd (f k)) (hw : wrd w) : ∀ (j k : Nat), m - k = j → k ≤ m → (∀ i, i < k → f i ≠ w) → EV ρ (d + 1) 226 3 [.ref q, .int (nI m), .long (c27 w), zU, .int (nI k)] [] (mk c R I L) = some ([.int (eO (fnd f m w))], mk c R I L) := by
  intro j
  induction j with
  | zero =>
    intro k hj hk hi
    have e : k = m := by omega
    subst e
    rw [bB_placeOfName_3, if_pos (nI_le (Nat.le_refl _) (by omega)), fnd_n hi]
    rfl
  | succ j ih =>
    intro k hj hk hi
    rw [bB_placeOfName_3, if_neg (nI_ge (by omega) (by omega)), (oka_21 hq).1, (oka_21 hq).2]
    show (if nI N ≤ nI k then _ else _) = _
    rw [if_neg (nI_ge (by omega) (by omega)), zar hq, zidx_n (by omega) (by omega), (hf k (by omega)).1]
    by_cases e : f k = w
    · rw [if_pos ((lg_cmp_eq _ _).mpr (by rw [e])), fnd_i (by omega) e hi]; rfl
    · rw [if_neg (fun z => e ((c27_i (hf k (by omega)).2 hw).mp ((lg_cmp_eq _ _).mp z))), nI_add]
      refine ih (k + 1) (by omega) (by omega) (fun i h2 => ?_)
      by_cases ei : i = k
      · rw [ei]; exact e
      · exact hi i (by omega)
theorem B_place_e {q N m : Nat} {f : Nat → List Nat} {w : List Nat} (hq : oka q 21 N = true) (hN : N < 2 ^ 20) (ha : m ≤ N) (hf : ∀ k, k < m → L q k = c27 (f k) ∧ wrd (f k)) (hw : wrd w) : EV ρ (d + 1) 226 0 [.ref q, .int (nI m), .long (c27 w), zU, zU] [] (mk c R I L) = some ([.int (eO (fnd f m w))], mk c R I L) := by
  rw [bB_placeOfName_0]
  exact B_place_l hq hN ha hf hw m 0 rfl (Nat.zero_le _) (fun i hi => absurd hi (Nat.not_lt_zero _))
theorem Pla_hasName_e {w : List Nat} (hp : isP p) (hN : QN Q) (h1 : RCc Q p I) (h2 : RCn m u Q p L) (hm : Q.1.1 ≤ m) (hu : Q.1.2.1 ≤ u) (hw : wrd w) : EV ρ (d + 2) 128 0 [.ref p, .long (c27 w), zU] [] (mk c R I L) = some ([.int (bo (!(decide (fnd Q.2.2.2.2.1 Q.1.1 w = none ∧ fnd Q.2.2.2.2.2.2.1 Q.1.2.1 w = none))))], mk c R I L) := by
  have g1 := hN.1
  have g2 := hN.2.1
  rw [bPla_hasName_0, zob (xp_o hp), zob (xp_o hp), xp_F3 hp, zrs, h1.1, B_place_e (f := Q.2.2.2.2.1) (xp_a1 hp) (by decide) g1 (fun k hk => ⟨h2.1 k (by omega), hN.2.2.2.1 k hk⟩) hw, zci, bPla_hasName_12]
  cases e1 : fnd Q.2.2.2.2.1 Q.1.1 w with
  | some z =>
    rw [if_neg (show ¬ eO (some z) = -1 from nI_m1 (fnd_b (by omega) z e1)), decide_eq_false (fun y => by cases y.1)]
    rfl
  | none =>
    rw [eO_n, if_pos rfl, zob (xp_o hp), zob (xp_o hp), xp_F4 hp, zrs, h1.2.1, B_place_e (f := Q.2.2.2.2.2.2.1) (xp_a2 hp) (by decide) g2 (fun k hk => ⟨h2.2.1 k (by omega), hN.2.2.2.2.1 k hk⟩) hw, zci, bPla_hasName_28]
    cases e2 : fnd Q.2.2.2.2.2.2.1 Q.1.2.1 w with
    | some z =>
      rw [if_neg (show ¬ eO (some z) = -1 from nI_m1 (fnd_b (by omega) z e2)), decide_eq_false (fun y => by cases y.2)]
      rfl
    | none =>
      rw [eO_n, if_pos rfl, decide_eq_true ⟨rfl, rfl⟩]
      rfl
theorem Par_newName_e (hK : TkI n t K) (hN : QN Q) (hm : Q.1.1 ≤ m) (hu : Q.1.2.1 ≤ u) (h : CS n t m u Q p K R I L) : EV ρ (d + 3) 145 0 [.ref 3] [] (mk c R I L) = some ([.int (bo (yNew Q K).isNone)], mk c R (match yNew Q K with
    | none => I
    | some e => z2 I 3 7 (nI e)) L) := by
  obtain ⟨a1, a2, a3, a4, a5, a6⟩ := h
  rw [bPar_isNewName_0, Par_plain_e hK a5, zci, bPar_isNewName_4]
  unfold yNew
  by_cases c1 : fre K = true
  · have hk1 := (fre_i c1).1
    rw [c1, if_neg (by decide), a3, zrs, zob (xp_o a2), a5.2.2.2.2 hk1, Pla_hasName_e a2 hN a6.1 a6.2.1 hm hu (hK.2.2.2.2.1 hk1), zci, bPar_isNewName_24, if_pos rfl]
    by_cases c2 : fnd Q.2.2.2.2.1 Q.1.1 K.2.2.2 = none ∧ fnd Q.2.2.2.2.2.2.1 Q.1.2.1 K.2.2.2 = none
    · rw [decide_eq_true c2, if_pos (by decide), if_pos c2]
      rfl
    · rw [decide_eq_false c2, if_neg (by decide), Par_fail_e a5, zci, bPar_isNewName_32, if_pos (by decide), if_neg c2]
      rfl
  · have c1' : fre K = false := by rw [Bool.eq_false_iff]; exact c1
    rw [c1', if_pos (by decide), Par_fail_e a5, zci, bPar_isNewName_12, zb0, if_neg (by decide)]
    rfl
theorem RC_sup {w : List Nat} (hp : isP p) (h : RC n t m u Q p R I L) : RC n t m u (q_ns (q_sn Q (va_up Q.2.2.2.2.2.2.2.2 Q.1.2.2 w)) (Q.1.2.2 + 1)) p R (z2 I p 2 (nI (Q.1.2.2 + 1))) (z2 L (p + 3) Q.1.2.2 (c27 w)) := by
  have := isP_g hp
  obtain ⟨⟨r1, r2, r3⟩, ⟨s1, s2, s3⟩, h3, h4, h5, h6, h7, h8⟩ := h
  refine ⟨⟨?_, ?_, ?_⟩, ⟨fun x hx => ?_, fun x hx => ?_, fun x hx => ?_⟩, ?_, ?_, ?_, ?_, ?_, ?_⟩
  · rw [z2a, if_neg (by omega)]; exact r1
  · rw [z2a, if_neg (by omega)]; exact r2
  · rw [z2_at]
  · rw [z2_ne (by omega)]; exact s1 x hx
  · rw [z2_ne (by omega)]; exact s2 x hx
  · have hx' : x < Q.1.2.2 + 1 := hx
    show _ = c27 (va_up Q.2.2.2.2.2.2.2.2 Q.1.2.2 w x)
    by_cases ex : x = Q.1.2.2
    · rw [ex, z2_at, va_up_self]
    · rw [z2a, if_neg (by omega), va_up_ne _ _ ex]; exact s3 x (by omega)
  · unfold RCi at h3 ⊢; rw [z2_ne (by omega), z2_ne (by omega)]; exact h3
  · unfold RCp at h4 ⊢; rw [z2_ne (by omega), z2_ne (by omega)]; exact h4
  · unfold RCe at h5 ⊢; rw [z2_ne (by omega), z2_ne (by omega), z2_ne (by omega)]; exact h5
  · unfold RCt at h6 ⊢; rw [z2_ne (by omega), z2_ne (by omega), z2_ne (by omega)]; exact h6
  · unfold RCs at h7 ⊢; rw [z2_ne (by omega), z2_ne (by omega), z2_ne (by omega), z2_ne (by omega)]; exact h7
  · unfold RCr at h8 ⊢; rw [z2_ne (by omega)]; exact h8
/-- the token and the tape stand as they did -/
theorem CS_i {m' u' : Nat} {Q' : QT} (h : CS n t m u Q p K R I L) (h1 : J 1 = I 1) (h2 : J 2 = I 2) (h3 : J 3 = I 3) (h4 : R' 3 = R 3) (h5 : L' 3 = L 3) (h6 : RC n t m' u' Q' p R' J L') : CS n t m' u' Q' p K R' J L' := by
  obtain ⟨a1, a2, a3, a4, a5, a6⟩ := h
  refine ⟨TC_to a1 h1 h2, a2, by rw [h4]; exact a3, by rw [h3]; exact a4, ?_, h6⟩
  unfold TkC at a5 ⊢
  rw [h3, h4, h5]
  exact a5
theorem Par_supply_e (hK : TkI n t K) (hN : QN Q) (h : CS n t m u Q p K R I L) : ∃ J L', EV ρ (d + 2) 144 0 [.ref 3, zU] [] (mk c R I L) = some ([.int (match ySup Q K with
      | .ok (_, s) => nI s
      | .error _ => -1)], mk c R J L') ∧ CF p I J ∧ CF p L L' ∧ (match ySup Q K with
      | .ok (Q', _) => CS n t m u Q' p K R J L' ∧ (∀ q, q ≠ p → J q = I q) ∧ (∀ q, q ≠ p + 3 → L' q = L q)
      | .error e => J = z2 I 3 7 (nI e)) := by
  obtain ⟨a1, a2, a3, a4, a5, a6⟩ := id h
  have hpg := isP_g a2
  have g8 := hN.2.2.1
  rw [bPar_readSupply_0, Par_plain_e hK a5, zci, bPar_readSupply_4]
  unfold ySup
  by_cases c1 : fre K = true
  · have hk1 := (fre_i c1).1
    simp only [if_pos c1]
    rw [c1, if_neg (by decide), a3, zrs, zob (xp_o a2), zrs, zob (xp_o a2), xp_F5 a2, zrs, a6.1.2.2, a5.2.2.2.2 hk1, B_place_e (d := d) (f := Q.2.2.2.2.2.2.2.2) (xp_a3 a2) (by decide) g8 (fun k hk => ⟨a6.2.1.2.2 k hk, hN.2.2.2.2.2 k hk⟩) (hK.2.2.2.2.1 hk1), zci, bPar_readSupply_36]
    cases e1 : fnd Q.2.2.2.2.2.2.2.2 Q.1.2.2 K.2.2.2 with
    | some z =>
      rw [if_neg (show ¬ eO (some z) = -1 from nI_m1 (fnd_b (by omega) z e1))]
      exact ⟨I, L, rfl, CF_r, CF_r, h, fun _ _ => rfl, fun _ _ => rfl⟩
    | none =>
      rw [eO_n, if_pos rfl, a3, zrs, zob (xp_o a2), a6.1.2.2]
      by_cases c2 : Q.1.2.2 < 8
      · simp only [if_pos c2]
        rw [if_pos (nI_lt c2 (by decide)), zrs, zob (xp_o a2), zrs, zob (xp_o a2), xp_F5 a2, zrs, a6.1.2.2, zar (xp_a3 a2), zidx_n c2 (by decide), bPar_readSupply_85, a3, zdpp, zrv, zob (xp_o a2), zrv, zob (xp_o a2), a6.1.2.2, nI_add, bPar_readSupply_98, a5.2.2.2.2 hk1]
        exact ⟨_, _, rfl, CF_z CF_r (by omega), CF_z CF_r (by omega), CS_i h (z2_ne (by omega)) (z2_ne (by omega)) (z2_ne (by omega)) rfl (z2_ne (by omega)) (RC_sup a2 a6), fun q hq => z2_ne hq, fun q hq => z2_ne hq⟩
      · simp only [if_neg c2]
        rw [if_neg (nI_nlt (by omega) (by omega)), Par_fail_e (d := d) a5, zci, bPar_readSupply_61]
        exact ⟨_, _, rfl, CF_z CF_r (by omega), CF_r, rfl⟩
  · have c1' : fre K = false := by rw [Bool.eq_false_iff]; exact c1
    simp only [if_neg c1]
    rw [c1', if_pos (by decide), Par_fail_e (d := d) a5, zci, bPar_readSupply_12]
    exact ⟨_, _, rfl, CF_z CF_r (by omega), CF_r, rfl⟩
end CREAD
