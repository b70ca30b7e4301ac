-- THE PURE PARSER: what it keeps
/-- names -/
def QN (Q : QT) : Prop := Q.1.1 ≤ 12 ∧ Q.1.2.1 ≤ 8 ∧ Q.1.2.2 ≤ 8 ∧ (∀ x, x < Q.1.1 → wrd (Q.2.2.2.2.1 x)) ∧ (∀ x, x < Q.1.2.1 → wrd (Q.2.2.2.2.2.2.1 x)) ∧ (∀ x, x < Q.1.2.2 → wrd (Q.2.2.2.2.2.2.2.2 x))
/-- bodies -/
def QB (Q : QT) : Prop := (∀ x y, Q.2.1 x = some y → y < x) ∧ (∀ x, (Q.2.2.1 x).length ≤ 3 ∧ ∀ z ∈ Q.2.2.1 x, z < Q.1.2.2) ∧ (∀ v, (Q.2.2.2.1 v).length ≤ 6 ∧ ∀ z ∈ Q.2.2.2.1 v, z.1 ≤ 4 ∧ (z.1 = 1 → z.2 < 16) ∧ (z.1 = 2 → z.2 < Q.1.2.2) ∧ (z.1 = 3 → z.2 < Q.1.2.2) ∧ z.2 ≤ 99) ∧
  (∀ v, (Q.2.2.2.2.2.2.2.1 v).length ≤ 3 ∧ ∀ w ∈ Q.2.2.2.2.2.2.2.1 v, w.length ≤ 8 ∧ ∀ z ∈ w, isSg z = true) ∧ (∀ x, (Q.2.2.2.2.2.1 x).length ≤ 8 ∧ ∀ z ∈ Q.2.2.2.2.2.1 x, isSg z = true)
/-- nothing behind -/
def QE (Q : QT) : Prop := (∀ x, Q.1.1 ≤ x → Q.2.1 x = none ∧ Q.2.2.1 x = []) ∧ (∀ v, Q.1.2.1 ≤ v → Q.2.2.2.1 v = [] ∧ Q.2.2.2.2.2.2.2.1 v = [])
theorem Q0_v : QN Q0 ∧ QB Q0 ∧ QE Q0 := by
  refine ⟨⟨by decide, by decide, by decide, fun x h => absurd h (Nat.not_lt_zero _), fun x h => absurd h (Nat.not_lt_zero _), fun x h => absurd h (Nat.not_lt_zero _)⟩, ⟨fun x y h => (by cases h), fun x => ⟨Nat.zero_le _, fun z h => (by cases h)⟩, fun x => ⟨Nat.zero_le _, fun z h => (by cases h)⟩, fun x => ⟨Nat.zero_le _, fun z h => (by cases h)⟩, fun x => ⟨Nat.zero_le _, fun z h => (by cases h)⟩⟩, ⟨fun x _ => ⟨rfl, rfl⟩, fun x _ => ⟨rfl, rfl⟩⟩⟩
theorem fnd_s {f : Nat → List Nat} {n k : Nat} {w : List Nat} (h : fnd f n w = some k) : k < n ∧ f k = w := by
  unfold fnd at h
  have h1 := List.find?_some h
  have h2 := List.mem_range.mp (List.mem_of_find?_eq_some h)
  exact ⟨h2, beq_iff_eq.mp h1⟩
section QINV
variable {n : Nat} {t : Nat → Nat} {Q Q' : QT} {K K' : Tk}
theorem ySup_f {s : Nat} (h : ySup Q K = .ok (Q', s)) : fre K = true ∧ (fnd Q.2.2.2.2.2.2.2.2 Q.1.2.2 K.2.2.2 = some s ∧ Q' = Q ∨ fnd Q.2.2.2.2.2.2.2.2 Q.1.2.2 K.2.2.2 = none ∧ Q.1.2.2 < 8 ∧ s = Q.1.2.2 ∧ Q' = q_ns (q_sn Q (va_up Q.2.2.2.2.2.2.2.2 Q.1.2.2 K.2.2.2)) (Q.1.2.2 + 1)) := by
  unfold ySup at h
  by_cases h0 : fre K = true
  · rw [if_pos h0] at h
    refine ⟨h0, ?_⟩
    cases e : fnd Q.2.2.2.2.2.2.2.2 Q.1.2.2 K.2.2.2 with
    | some z => rw [e] at h; cases h; exact .inl ⟨rfl, rfl⟩
    | none =>
      rw [e] at h
      simp only at h
      by_cases h1 : Q.1.2.2 < 8
      · rw [if_pos h1] at h; cases h; exact .inr ⟨rfl, h1, rfl, rfl⟩
      · rw [if_neg h1] at h; cases h
  · rw [if_neg h0] at h; cases h
theorem ySup_v {s : Nat} (hK : TkI n t K) (h : ySup Q K = .ok (Q', s)) (hN : QN Q) (hB : QB Q) : QN Q' ∧ QB Q' ∧ s < Q'.1.2.2 ∧ Q.1.2.2 ≤ Q'.1.2.2 ∧ Q' = q_ns (q_sn Q Q'.2.2.2.2.2.2.2.2) Q'.1.2.2 := by
  obtain ⟨h0, h1⟩ := ySup_f h
  have hw := hK.2.2.2.2.1 (fre_i h0).1
  rcases h1 with ⟨a, b⟩ | ⟨a, b, e, g⟩
  · subst b
    exact ⟨hN, hB, (fnd_s a).1, Nat.le_refl _, rfl⟩
  · subst g e
    refine ⟨⟨hN.1, hN.2.1, b, hN.2.2.2.1, hN.2.2.2.2.1, fun x hx => ?_⟩, ⟨hB.1, fun x => ⟨(hB.2.1 x).1, fun z hz => Nat.lt_succ_of_lt ((hB.2.1 x).2 z hz)⟩, fun v => ⟨(hB.2.2.1 v).1, fun z hz => ?_⟩, hB.2.2.2.1, hB.2.2.2.2⟩, Nat.lt_succ_self _, Nat.le_succ _, rfl⟩
    · show wrd (va_up Q.2.2.2.2.2.2.2.2 Q.1.2.2 K.2.2.2 x)
      by_cases ex : x = Q.1.2.2
      · rw [ex, va_up_self]; exact hw
      · rw [va_up_ne _ _ ex]
        have : x < Q.1.2.2 + 1 := hx
        exact hN.2.2.2.2.2 x (by omega)
    · obtain ⟨a1, a2, a3, a4, a5⟩ := (hB.2.2.1 v).2 z hz
      exact ⟨a1, a2, fun e => Nat.lt_succ_of_lt (a3 e), fun e => Nat.lt_succ_of_lt (a4 e), a5⟩
theorem yNeeds_v : ∀ (f : Nat) (Q : QT) (K : Tk), TkI n t K → (Q.2.2.1 Q.1.1).length + f = 3 → yNeeds n t f Q K = .ok (Q', K') → QN Q → QB Q → QN Q' ∧ QB Q' ∧ TkI n t K' ∧ Q.1.2.2 ≤ Q'.1.2.2 ∧ (∀ x, x ≠ Q.1.1 → Q'.2.2.1 x = Q.2.2.1 x) ∧ Q' = q_ns (q_sn (q_ne Q Q'.2.2.1) Q'.2.2.2.2.2.2.2.2) Q'.1.2.2 := by
  intro f
  induction f with
  | zero =>
    intro Q K hK hf h hN hB
    unfold yNeeds at h
    split at h
    · cases h
    · cases h; exact ⟨hN, hB, hK, Nat.le_refl _, fun _ _ => rfl, rfl⟩
  | succ f ih =>
    intro Q K hK hf h hN hB
    unfold yNeeds at h
    split at h
    · cases e : ySup Q (nxK n t K) with
      | error z => rw [e] at h; cases h
      | ok z =>
        obtain ⟨Q1, s⟩ := z
        rw [e] at h
        simp only at h
        obtain ⟨a1, a2, a3, a4, a5⟩ := ySup_v (nxK_i hK) e hN hB
        have e1 : Q1.1.1 = Q.1.1 := by rw [a5]
        have e2 : Q1.2.2.1 = Q.2.2.1 := by rw [a5]
        have hlen : ∀ x, (va_up Q1.2.2.1 Q1.1.1 (Q1.2.2.1 Q1.1.1 ++ [s]) x).length ≤ 3 ∧ ∀ z ∈ va_up Q1.2.2.1 Q1.1.1 (Q1.2.2.1 Q1.1.1 ++ [s]) x, z < Q1.1.2.2 := fun x => by
          by_cases ex : x = Q1.1.1
          · rw [ex, va_up_self]
            refine ⟨?_, fun z hz => ?_⟩
            · rw [List.length_append, e1, e2]; show _ + 1 ≤ 3; omega
            · rcases List.mem_append.mp hz with g | g
              · exact (a2.2.1 _).2 z g
              · rw [List.mem_singleton.mp g]; exact a3
          · rw [va_up_ne _ _ ex]; exact a2.2.1 x
        obtain ⟨b1, b2, b3, b4, b5, b6⟩ := ih _ _ (nxK_i (nxK_i hK)) (by show (va_up Q1.2.2.1 Q1.1.1 (Q1.2.2.1 Q1.1.1 ++ [s]) Q1.1.1).length + f = 3; rw [va_up_self, List.length_append, e1, e2]; show _ + 1 + f = 3; omega) h a1 ⟨a2.1, hlen, a2.2.2⟩
        refine ⟨b1, b2, b3, Nat.le_trans a4 b4, fun x hx => ?_, ?_⟩
        · have := b5 x (by show x ≠ Q1.1.1; rw [e1]; exact hx)
          rw [this]
          show va_up Q1.2.2.1 Q1.1.1 _ x = _
          rw [va_up_ne _ _ (by rw [e1]; exact hx), e2]
        · rw [b6, a5]
    · cases h; exact ⟨hN, hB, hK, Nat.le_refl _, fun _ _ => rfl, rfl⟩
theorem yPar_v (hK : TkI n t K) (h : yPar n t Q K = .ok (Q', K')) (hN : QN Q) (hB : QB Q) : QN Q' ∧ QB Q' ∧ TkI n t K' ∧ (∀ x, x ≠ Q.1.1 → Q'.2.1 x = Q.2.1 x) ∧ Q' = q_pa Q Q'.2.1 := by
  unfold yPar at h
  split at h
  · split at h
    · cases e : fnd Q.2.2.2.2.1 Q.1.1 (nxK n t K).2.2.2 with
      | none => rw [e] at h; cases h
      | some y =>
        rw [e] at h
        cases h
        refine ⟨hN, ⟨fun x z hz => ?_, hB.2⟩, nxK_i (nxK_i hK), fun x hx => va_up_ne _ _ hx, rfl⟩
        have hz' : va_up Q.2.1 Q.1.1 (some y) x = some z := hz
        by_cases ex : x = Q.1.1
        · rw [ex, va_up_self] at hz'
          cases hz'
          rw [ex]
          exact (fnd_s e).1
        · rw [va_up_ne _ _ ex] at hz'
          exact hB.1 x z hz'
    · cases h
  · cases h
    exact ⟨hN, hB, hK, fun _ _ => rfl, rfl⟩
/-- the board with a device's name and id -/
def yDv (Q : QT) (w i : List Nat) : QT := q_di (q_dn Q (va_up Q.2.2.2.2.1 Q.1.1 w)) (va_up Q.2.2.2.2.2.1 Q.1.1 i)
theorem yDv_v {w i : List Nat} (hi : i.length ≤ 8 ∧ ∀ z ∈ i, isSg z = true) (hN : QN Q) (hB : QB Q) : QN (yDv Q w i) ∧ QB (yDv Q w i) := by
  refine ⟨⟨hN.1, hN.2.1, hN.2.2.1, fun x hx => ?_, hN.2.2.2.2⟩, ⟨hB.1, hB.2.1, hB.2.2.1, hB.2.2.2.1, fun x => ?_⟩⟩
  · show wrd (va_up Q.2.2.2.2.1 Q.1.1 w x)
    have hx' : x < Q.1.1 := hx
    rw [va_up_ne _ _ (by omega)]
    exact hN.2.2.2.1 x hx'
  · show (va_up Q.2.2.2.2.2.1 Q.1.1 i x).length ≤ 8 ∧ ∀ z ∈ va_up Q.2.2.2.2.2.1 Q.1.1 i x, isSg z = true
    by_cases ex : x = Q.1.1
    · rw [ex, va_up_self]; exact hi
    · rw [va_up_ne _ _ ex]; exact hB.2.2.2.2 x
theorem yNew_n (h : yNew Q K = none) : fre K = true ∧ fnd Q.2.2.2.2.1 Q.1.1 K.2.2.2 = none ∧ fnd Q.2.2.2.2.2.2.1 Q.1.2.1 K.2.2.2 = none := by
  unfold yNew at h
  split at h
  · rename_i h0
    split at h
    · rename_i h1; exact ⟨h0, h1⟩
    · cases h
  · cases h
theorem yId_n (h : yId K = none) : K.1 = 4 ∧ K.2.2.2.all isLi = true := by
  unfold yId at h
  split at h
  · rename_i h0
    split at h
    · rename_i h1; exact ⟨h0, h1⟩
    · cases h
  · cases h
theorem yDevL_f (h : yDevL n t Q K = .ok (Q', K')) : Q.1.1 < 12 ∧ yNew Q (nxK n t K) = none ∧ yId (nxK n t (nxK n t K)) = none ∧ ∃ Q1 K1 Q2, yPar n t (yDv Q (nxK n t K).2.2.2 (nxK n t (nxK n t K)).2.2.2) (nxK n t (nxK n t (nxK n t K))) = .ok (Q1, K1) ∧ yNeeds n t 3 Q1 K1 = .ok (Q2, K') ∧ Q' = q_nd Q2 (Q2.1.1 + 1) := by
  unfold yDevL at h
  split at h
  · rename_i h0
    refine ⟨h0, ?_⟩
    cases e1 : yNew Q (nxK n t K) with
    | some z => rw [e1] at h; cases h
    | none =>
      rw [e1] at h
      simp only at h
      cases e2 : yId (nxK n t (nxK n t K)) with
      | some z => rw [e2] at h; cases h
      | none =>
        rw [e2] at h
        simp only at h
        refine ⟨rfl, rfl, ?_⟩
        unfold yDv
        split at h
        · cases h
        · rename_i Q1 K1 e3
          split at h
          · cases h
          · rename_i Q2 K2 e4
            cases h
            exact ⟨Q1, K1, Q2, e3, e4, rfl⟩
  · cases h
theorem yDevL_v (hK : TkI n t K) (h : yDevL n t Q K = .ok (Q', K')) (hN : QN Q) (hB : QB Q) (hE : QE Q) : QN Q' ∧ QB Q' ∧ QE Q' ∧ TkI n t K' ∧ Q'.1.1 = Q.1.1 + 1 ∧ Q'.1.2.1 = Q.1.2.1 := by
  obtain ⟨h0, h1, h2, Q1, K1, Q2, h3, h4, h5⟩ := yDevL_f h
  have k1 := nxK_i hK
  have k2 := nxK_i k1
  have k3 := nxK_i k2
  obtain ⟨i1, i2, i3, i4, i5⟩ := k2.2.2.2.2.2.2.2 (yId_n h2).1
  obtain ⟨a1, a2⟩ := yDv_v (Q := Q) (w := (nxK n t K).2.2.2) (i := (nxK n t (nxK n t K)).2.2.2) ⟨i4, i2⟩ hN hB
  obtain ⟨b1, b2, b3, b4, b5⟩ := yPar_v k3 h3 a1 a2
  have e1 : Q1.1.1 = Q.1.1 := by rw [b5]; rfl
  have e2 : Q1.2.2.1 = Q.2.2.1 := by rw [b5]; rfl
  obtain ⟨c1, c2, c3, c4, c5, c6⟩ := yNeeds_v 3 Q1 K1 b3 (by rw [e1, e2, (hE.1 _ (Nat.le_refl _)).2]; rfl) h4 b1 b2
  have f1 : Q2.1.1 = Q.1.1 := by rw [c6]; exact e1
  have f2 : Q2.1.2.1 = Q.1.2.1 := by rw [c6, b5]; rfl
  have f3 : Q2.2.2.2.2.1 = va_up Q.2.2.2.2.1 Q.1.1 (nxK n t K).2.2.2 := by rw [c6, b5]; rfl
  subst h5
  refine ⟨⟨?_, c1.2.1, c1.2.2.1, fun x hx => ?_, c1.2.2.2.2⟩, c2, ⟨fun x hx => ?_, fun v hv => ?_⟩, c3, ?_, f2⟩
  · show Q2.1.1 + 1 ≤ 12; rw [f1]; omega
  · have hx' : x < Q2.1.1 + 1 := hx
    rw [f1] at hx'
    show wrd (Q2.2.2.2.2.1 x)
    rw [f3]
    by_cases ex : x = Q.1.1
    · rw [ex, va_up_self]; exact k1.2.2.2.2.1 (fre_i (yNew_n h1).1).1
    · rw [va_up_ne _ _ ex]; exact hN.2.2.2.1 x (by omega)
  · have hx' : Q2.1.1 + 1 ≤ x := hx
    rw [f1] at hx'
    refine ⟨?_, ?_⟩
    · have : Q2.2.1 = Q1.2.1 := by rw [c6]
      show Q2.2.1 x = none
      rw [this, b4 x (by show x ≠ Q.1.1; omega)]
      exact (hE.1 x (by omega)).1
    · show Q2.2.2.1 x = []
      rw [c5 x (by rw [e1]; omega), e2]
      exact (hE.1 x (by omega)).2
  · have hv' : Q2.1.2.1 ≤ v := hv
    rw [f2] at hv'
    have g1 : Q2.2.2.2.1 = Q.2.2.2.1 := by rw [c6, b5]; rfl
    have g2 : Q2.2.2.2.2.2.2.2.1 = Q.2.2.2.2.2.2.2.1 := by rw [c6, b5]; rfl
    refine ⟨?_, ?_⟩
    · show Q2.2.2.2.1 v = []; rw [g1]; exact (hE.2 v hv').1
    · show Q2.2.2.2.2.2.2.2.1 v = []; rw [g2]; exact (hE.2 v hv').2
  · show Q2.1.1 + 1 = _; rw [f1]
end QINV
