-- THE PURE PARSER: drivers, lines
section QINV2
variable {n : Nat} {t : Nat → Nat} {Q Q' : QT} {K K' : Tk}
/-- a pattern more -/
def yPt (Q : QT) (w : List Nat) : QT := q_pt Q (va_up Q.2.2.2.2.2.2.2.1 Q.1.2.1 (Q.2.2.2.2.2.2.2.1 Q.1.2.1 ++ [w]))
/-- a step more -/
def ySp (Q : QT) (z : Nat × Nat) : QT := q_sp Q (va_up Q.2.2.2.1 Q.1.2.1 (Q.2.2.2.1 Q.1.2.1 ++ [z]))
theorem yPats_s (f : Nat) (Q : QT) (K : Tk) : yPats n t (f + 1) Q K = if (nxK n t K).1 = 4 then (if kW 4 (nxK n t (nxK n t K)) = true then yPats n t f (yPt Q (nxK n t K).2.2.2) (nxK n t (nxK n t K)) else .ok (yPt Q (nxK n t K).2.2.2, nxK n t (nxK n t K))) else .error (er (nxK n t K) 1) := rfl
theorem yPt_v {w : List Nat} (hl : (Q.2.2.2.2.2.2.2.1 Q.1.2.1).length < 3) (hw : w.length ≤ 8 ∧ ∀ z ∈ w, isSg z = true) (hB : QB Q) : QB (yPt Q w) := by
  refine ⟨hB.1, hB.2.1, hB.2.2.1, fun v => ?_, hB.2.2.2.2⟩
  show (va_up Q.2.2.2.2.2.2.2.1 Q.1.2.1 (Q.2.2.2.2.2.2.2.1 Q.1.2.1 ++ [w]) v).length ≤ 3 ∧ ∀ w' ∈ va_up Q.2.2.2.2.2.2.2.1 Q.1.2.1 (Q.2.2.2.2.2.2.2.1 Q.1.2.1 ++ [w]) v, w'.length ≤ 8 ∧ ∀ z ∈ w', isSg z = true
  by_cases ev : v = Q.1.2.1
  · rw [ev, va_up_self]
    refine ⟨?_, fun z hz => ?_⟩
    · rw [List.length_append]; show _ + 1 ≤ 3; omega
    · rcases List.mem_append.mp hz with g | g
      · exact (hB.2.2.2.1 _).2 z g
      · rw [List.mem_singleton.mp g]; exact hw
  · rw [va_up_ne _ _ ev]; exact hB.2.2.2.1 v
theorem yPats_v : ∀ (f : Nat) (Q : QT) (K : Tk), TkI n t K → (Q.2.2.2.2.2.2.2.1 Q.1.2.1).length + f = 3 → yPats n t f Q K = .ok (Q', K') → QN Q → QB Q → QN Q' ∧ QB Q' ∧ TkI n t K' ∧ (∀ x, x ≠ Q.1.2.1 → Q'.2.2.2.2.2.2.2.1 x = Q.2.2.2.2.2.2.2.1 x) ∧ Q' = q_pt Q Q'.2.2.2.2.2.2.2.1 := by
  intro f
  induction f with
  | zero =>
    intro Q K hK hf h hN hB
    unfold yPats at h
    cases h
  | succ f ih =>
    intro Q K hK hf h hN hB
    rw [yPats_s] at h
    split at h
    · rename_i h4
      have k1 := nxK_i hK
      obtain ⟨i1, i2, i3, i4, i5⟩ := k1.2.2.2.2.2.2.2 h4
      have hB' := yPt_v (Q := Q) (w := (nxK n t K).2.2.2) (by omega) ⟨i4, i2⟩ hB
      split at h
      · obtain ⟨b1, b2, b3, b4, b5⟩ := ih _ _ (nxK_i k1) (by show (va_up Q.2.2.2.2.2.2.2.1 Q.1.2.1 (Q.2.2.2.2.2.2.2.1 Q.1.2.1 ++ [_]) Q.1.2.1).length + f = 3; rw [va_up_self, List.length_append]; show _ + 1 + f = 3; omega) h hN hB'
        refine ⟨b1, b2, b3, fun x hx => ?_, ?_⟩
        · rw [b4 x hx]
          exact va_up_ne _ _ hx
        · rw [b5]; rfl
      · cases h
        exact ⟨hN, hB', nxK_i k1, fun x hx => va_up_ne _ _ hx, rfl⟩
    · cases h
theorem stw_le {z : Nat} (h : stw K = some z) : z ≤ 4 ∧ K.1 = 1 ∧ kwi K.2.2.2 = some (z + 5) := by
  unfold stw at h
  split at h
  · rename_i h1
    cases e : kwi K.2.2.2 with
    | none => rw [e] at h; cases h
    | some i =>
      rw [e] at h
      simp only at h
      have := kwi_lt e
      split at h
      · cases h
        exact ⟨by omega, h1, by congr 1; omega⟩
      · cases h
  · cases h
theorem yVal_v {z v : Nat} (hz : z ≤ 4) (hK : TkI n t K) (h : yVal n t z Q K = .ok (Q', v, K')) (hN : QN Q) (hB : QB Q) : QN Q' ∧ QB Q' ∧ TkI n t K' ∧ (z = 1 → v < 16) ∧ (z = 2 → v < Q'.1.2.2) ∧ (z = 3 → v < Q'.1.2.2) ∧ v ≤ 99 ∧ Q.1.2.2 ≤ Q'.1.2.2 ∧ Q' = q_ns (q_sn Q Q'.2.2.2.2.2.2.2.2) Q'.1.2.2 := by
  unfold yVal at h
  split at h
  · cases h
    exact ⟨hN, hB, hK, fun e => by omega, fun e => by omega, fun e => by omega, by decide, Nat.le_refl _, rfl⟩
  · split at h
    · split at h
      · rename_i h2
        split at h
        · rename_i h3
          cases h
          exact ⟨hN, hB, nxK_i hK, fun e => h3.2 e, fun e => by omega, fun e => by omega, nmb_le hK h2, Nat.le_refl _, rfl⟩
        · cases h
      · cases h
    · cases e : ySup Q K with
      | error y => rw [e] at h; cases h
      | ok y =>
        obtain ⟨Q1, s⟩ := y
        rw [e] at h
        cases h
        obtain ⟨a1, a2, a3, a4, a5⟩ := ySup_v hK e hN hB
        have := a1.2.2.1
        exact ⟨a1, a2, nxK_i hK, fun e => by omega, fun _ => a3, fun _ => a3, by omega, a4, a5⟩
theorem ySteps_s (f : Nat) (Q : QT) (K : Tk) : ySteps n t (f + 1) Q K = (match stw K with
    | none => .ok (Q, K)
    | some z => match yVal n t z Q (nxK n t K) with
      | .error e => .error e
      | .ok (Q', v, K') => ySteps n t f (ySp Q' (z, v)) K') := rfl
theorem ySp_v {z : Nat × Nat} (hl : (Q.2.2.2.1 Q.1.2.1).length < 6) (hz : z.1 ≤ 4 ∧ (z.1 = 1 → z.2 < 16) ∧ (z.1 = 2 → z.2 < Q.1.2.2) ∧ (z.1 = 3 → z.2 < Q.1.2.2) ∧ z.2 ≤ 99) (hB : QB Q) : QB (ySp Q z) := by
  refine ⟨hB.1, hB.2.1, fun v => ?_, hB.2.2.2⟩
  show (va_up Q.2.2.2.1 Q.1.2.1 (Q.2.2.2.1 Q.1.2.1 ++ [z]) v).length ≤ 6 ∧ ∀ z' ∈ va_up Q.2.2.2.1 Q.1.2.1 (Q.2.2.2.1 Q.1.2.1 ++ [z]) v, z'.1 ≤ 4 ∧ (z'.1 = 1 → z'.2 < 16) ∧ (z'.1 = 2 → z'.2 < Q.1.2.2) ∧ (z'.1 = 3 → z'.2 < Q.1.2.2) ∧ z'.2 ≤ 99
  by_cases ev : v = Q.1.2.1
  · rw [ev, va_up_self]
    refine ⟨?_, fun y hy => ?_⟩
    · rw [List.length_append]; show _ + 1 ≤ 6; omega
    · rcases List.mem_append.mp hy with g | g
      · exact (hB.2.2.1 _).2 y g
      · rw [List.mem_singleton.mp g]; exact hz
  · rw [va_up_ne _ _ ev]; exact hB.2.2.1 v
theorem ySteps_v : ∀ (f : Nat) (Q : QT) (K : Tk), TkI n t K → (Q.2.2.2.1 Q.1.2.1).length + f = 6 → ySteps n t f Q K = .ok (Q', K') → QN Q → QB Q → QN Q' ∧ QB Q' ∧ TkI n t K' ∧ Q.1.2.2 ≤ Q'.1.2.2 ∧ (∀ x, x ≠ Q.1.2.1 → Q'.2.2.2.1 x = Q.2.2.2.1 x) ∧ Q' = q_ns (q_sn (q_sp Q Q'.2.2.2.1) Q'.2.2.2.2.2.2.2.2) Q'.1.2.2 := by
  intro f
  induction f with
  | zero =>
    intro Q K hK hf h hN hB
    unfold ySteps at h
    cases e : stw K with
    | none => rw [e] at h; cases h; exact ⟨hN, hB, hK, Nat.le_refl _, fun _ _ => rfl, rfl⟩
    | some z => rw [e] at h; cases h
  | succ f ih =>
    intro Q K hK hf h hN hB
    rw [ySteps_s] at h
    cases e : stw K with
    | none => rw [e] at h; cases h; exact ⟨hN, hB, hK, Nat.le_refl _, fun _ _ => rfl, rfl⟩
    | some z =>
      rw [e] at h
      simp only at h
      cases e2 : yVal n t z Q (nxK n t K) with
      | error y => rw [e2] at h; cases h
      | ok y =>
        obtain ⟨Q1, v, K1⟩ := y
        rw [e2] at h
        simp only at h
        obtain ⟨a1, a2, a3, a4, a5, a6, a7, a8, a9⟩ := yVal_v (stw_le e).1 (nxK_i hK) e2 hN hB
        have e1 : Q1.1.2.1 = Q.1.2.1 := by rw [a9]
        have e3 : Q1.2.2.2.1 = Q.2.2.2.1 := by rw [a9]
        have hB' := ySp_v (Q := Q1) (z := (z, v)) (by rw [e1, e3]; omega) ⟨(stw_le e).1, a4, a5, a6, a7⟩ a2
        obtain ⟨b1, b2, b3, b4, b5, b6⟩ := ih _ _ a3 (by show (va_up Q1.2.2.2.1 Q1.1.2.1 (Q1.2.2.2.1 Q1.1.2.1 ++ [_]) Q1.1.2.1).length + f = 6; rw [va_up_self, List.length_append, e1, e3]; show _ + 1 + f = 6; omega) h a1 hB'
        refine ⟨b1, b2, b3, Nat.le_trans a8 b4, fun x hx => ?_, ?_⟩
        · rw [b5 x (by show x ≠ Q1.1.2.1; rw [e1]; exact hx)]
          show va_up Q1.2.2.2.1 Q1.1.2.1 _ x = _
          rw [va_up_ne _ _ (by rw [e1]; exact hx), e3]
        · rw [b6, a9]; rfl
/-- the board with a driver's name -/
def yVn (Q : QT) (w : List Nat) : QT := q_vn Q (va_up Q.2.2.2.2.2.2.1 Q.1.2.1 w)
theorem yDrvL_f (h : yDrvL n t Q K = .ok (Q', K')) : Q.1.2.1 < 8 ∧ yNew Q (nxK n t K) = none ∧ ∃ Q1 K1 Q2, yPats n t 3 (yVn Q (nxK n t K).2.2.2) (nxK n t K) = .ok (Q1, K1) ∧ ySteps n t 6 Q1 K1 = .ok (Q2, K') ∧ Q' = q_nv Q2 (Q2.1.2.1 + 1) := by
  unfold yDrvL at h
  split at h
  · rename_i h0
    refine ⟨h0, ?_⟩
    cases e1 : yNew Q (nxK n t K) with
    | some z => rw [e1] at h; cases h
    | none =>
      rw [e1] at h
      simp only at h
      refine ⟨rfl, ?_⟩
      unfold yVn
      split at h
      · cases h
      · rename_i Q1 K1 e3
        split at h
        · cases h
        · rename_i Q2 K2 e4
          cases h
          exact ⟨Q1, K1, Q2, e3, e4, rfl⟩
  · cases h
theorem yDrvL_v (hK : TkI n t K) (h : yDrvL n t Q K = .ok (Q', K')) (hN : QN Q) (hB : QB Q) (hE : QE Q) : QN Q' ∧ QB Q' ∧ QE Q' ∧ TkI n t K' ∧ Q'.1.1 = Q.1.1 ∧ Q'.1.2.1 = Q.1.2.1 + 1 := by
  obtain ⟨h0, h1, Q1, K1, Q2, h3, h4, h5⟩ := yDrvL_f h
  have k1 := nxK_i hK
  have a1 : QN (yVn Q (nxK n t K).2.2.2) := ⟨hN.1, hN.2.1, hN.2.2.1, hN.2.2.2.1, fun x hx => by
    show wrd (va_up Q.2.2.2.2.2.2.1 Q.1.2.1 _ x)
    have hx' : x < Q.1.2.1 := hx
    rw [va_up_ne _ _ (by omega)]
    exact hN.2.2.2.2.1 x hx', hN.2.2.2.2.2⟩
  obtain ⟨b1, b2, b3, b4, b5⟩ := yPats_v 3 _ _ k1 (by show (Q.2.2.2.2.2.2.2.1 Q.1.2.1).length + 3 = 3; rw [(hE.2 _ (Nat.le_refl _)).2]; rfl) h3 a1 hB
  have e1 : Q1.1.2.1 = Q.1.2.1 := by rw [b5]; rfl
  have e2 : Q1.2.2.2.1 = Q.2.2.2.1 := by rw [b5]; rfl
  obtain ⟨c1, c2, c3, c4, c5, c6⟩ := ySteps_v 6 Q1 K1 b3 (by rw [e1, e2, (hE.2 _ (Nat.le_refl _)).1]; rfl) h4 b1 b2
  have f1 : Q2.1.2.1 = Q.1.2.1 := by rw [c6]; exact e1
  have f2 : Q2.1.1 = Q.1.1 := by rw [c6, b5]; rfl
  have f3 : Q2.2.2.2.2.2.2.1 = va_up Q.2.2.2.2.2.2.1 Q.1.2.1 (nxK n t K).2.2.2 := by rw [c6, b5]; rfl
  subst h5
  refine ⟨⟨c1.1, ?_, c1.2.2.1, c1.2.2.2.1, fun x hx => ?_, c1.2.2.2.2.2⟩, c2, ⟨fun x hx => ?_, fun v hv => ?_⟩, c3, f2, ?_⟩
  · show Q2.1.2.1 + 1 ≤ 8; rw [f1]; omega
  · have hx' : x < Q2.1.2.1 + 1 := hx
    rw [f1] at hx'
    show wrd (Q2.2.2.2.2.2.2.1 x)
    rw [f3]
    by_cases ex : x = Q.1.2.1
    · rw [ex, va_up_self]; exact k1.2.2.2.2.1 (fre_i (yNew_n h1).1).1
    · rw [va_up_ne _ _ ex]; exact hN.2.2.2.2.1 x (by omega)
  · have hx' : Q2.1.1 ≤ x := hx
    rw [f2] at hx'
    have g1 : Q2.2.1 = Q.2.1 := by rw [c6, b5]; rfl
    have g2 : Q2.2.2.1 = Q.2.2.1 := by rw [c6, b5]; rfl
    refine ⟨?_, ?_⟩
    · show Q2.2.1 x = none; rw [g1]; exact (hE.1 x hx').1
    · show Q2.2.2.1 x = []; rw [g2]; exact (hE.1 x hx').2
  · have hv' : Q2.1.2.1 + 1 ≤ v := hv
    rw [f1] at hv'
    refine ⟨?_, ?_⟩
    · show Q2.2.2.2.1 v = []
      rw [c5 v (by rw [e1]; omega), e2]
      exact (hE.2 v (by omega)).1
    · have : Q2.2.2.2.2.2.2.2.1 = Q1.2.2.2.2.2.2.2.1 := by rw [c6]
      show Q2.2.2.2.2.2.2.2.1 v = []
      rw [this, b4 v (by show v ≠ Q.1.2.1; omega)]
      exact (hE.2 v (by omega)).2
  · show Q2.1.2.1 + 1 = _; rw [f1]
theorem yLine_v (hK : TkI n t K) (h : yLine n t Q K = .ok (Q', K')) (hN : QN Q) (hB : QB Q) (hE : QE Q) : QN Q' ∧ QB Q' ∧ QE Q' ∧ TkI n t K' ∧ Q'.1.1 + Q'.1.2.1 = Q.1.1 + Q.1.2.1 + 1 := by
  unfold yLine at h
  split at h
  · obtain ⟨a, b, e, f, g, i⟩ := yDevL_v hK h hN hB hE
    exact ⟨a, b, e, f, by omega⟩
  · split at h
    · obtain ⟨a, b, e, f, g, i⟩ := yDrvL_v hK h hN hB hE
      exact ⟨a, b, e, f, by omega⟩
    · cases h
theorem yMain_v : ∀ (f : Nat) (Q : QT) (K : Tk), TkI n t K → yMain n t f Q K = .ok Q' → QN Q → QB Q → QE Q → QN Q' ∧ QB Q' ∧ QE Q' := by
  intro f
  induction f with
  | zero => intro Q K hK h; unfold yMain at h; cases h
  | succ f ih =>
    intro Q K hK h hN hB hE
    unfold yMain at h
    split at h
    · cases h; exact ⟨hN, hB, hE⟩
    · cases e : yLine n t Q K with
      | error z => rw [e] at h; cases h
      | ok z =>
        obtain ⟨Q1, K1⟩ := z
        rw [e] at h
        simp only at h
        obtain ⟨a1, a2, a3, a4, a5⟩ := yLine_v hK e hN hB hE
        split at h
        · exact ih Q1 _ (nxK_i a4) h a1 a2 a3
        · cases h
theorem yBoard_v (h : yBoard n t = .ok Q') : QN Q' ∧ QB Q' ∧ QE Q' := yMain_v 21 Q0 _ (tok_i n t (Nat.zero_le _)) h Q0_v.1 Q0_v.2.1 Q0_v.2.2
end QINV2
