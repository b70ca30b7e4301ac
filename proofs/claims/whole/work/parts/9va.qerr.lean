-- THE PURE PARSER: its faults are small numbers
section QERR
variable {n : Nat} {t : Nat → Nat} {Q Q' : QT} {K K' : Tk} {e : Nat}
def sme (e : Nat) : Prop := 1 ≤ e ∧ e ≤ 5188
theorem er_s (hn : n ≤ 648) (hK : TkI n t K) {y : Nat} (h1 : 1 ≤ y) (h2 : y ≤ 4) : sme (er K y) := by
  have := hK.2.1
  unfold sme er
  omega
theorem ySup_s (hn : n ≤ 648) (hK : TkI n t K) (h : ySup Q K = .error e) : sme e := by
  obtain ⟨y, h1, h2, h3⟩ := ySup_er h
  rw [h3]
  exact er_s hn hK h1 h2
theorem yNew_s (hn : n ≤ 648) (hK : TkI n t K) (h : yNew Q K = some e) : sme e := by
  obtain ⟨y, h1, h2, h3⟩ := yNew_er h
  rw [h3]
  exact er_s hn hK h1 h2
theorem yId_s (hn : n ≤ 648) (hK : TkI n t K) (h : yId K = some e) : sme e := by
  unfold yId at h
  split at h
  · split at h
    · cases h
    · cases h; exact er_s hn hK (by decide) (by decide)
  · cases h; exact er_s hn hK (by decide) (by decide)
theorem yPar_s (hn : n ≤ 648) (hK : TkI n t K) (h : yPar n t Q K = .error e) : sme e := by
  unfold yPar at h
  split at h
  · split at h
    · split at h
      · cases h
      · cases h; exact er_s hn (nxK_i hK) (by decide) (by decide)
    · cases h; exact er_s hn (nxK_i hK) (by decide) (by decide)
  · cases h
theorem yNeeds_s2 (hn : n ≤ 648) : ∀ (f : Nat) (Q : QT) (K : Tk), TkI n t K → yNeeds n t f Q K = .error e → sme e := by
  intro f
  induction f with
  | zero =>
    intro Q K hK h
    unfold yNeeds at h
    split at h
    · cases h; exact er_s hn hK (by decide) (by decide)
    · cases h
  | succ f ih =>
    intro Q K hK h
    unfold yNeeds at h
    split at h
    · cases es : ySup Q (nxK n t K) with
      | error y => rw [es] at h; cases h; exact ySup_s hn (nxK_i hK) es
      | ok y => obtain ⟨Q1, s⟩ := y; rw [es] at h; exact ih _ _ (nxK_i (nxK_i hK)) h
    · cases h
theorem yDevL_s (hn : n ≤ 648) (hK : TkI n t K) (hN : QN Q) (hB : QB Q) (h : yDevL n t Q K = .error e) : sme e := by
  have k1 := nxK_i hK
  have k2 := nxK_i k1
  have k3 := nxK_i k2
  unfold yDevL at h
  split at h
  · cases e1 : yNew Q (nxK n t K) with
    | some z => rw [e1] at h; cases h; exact yNew_s hn k1 e1
    | none =>
      rw [e1] at h
      simp only at h
      cases e2 : yId (nxK n t (nxK n t K)) with
      | some z => rw [e2] at h; cases h; exact yId_s hn k2 e2
      | none =>
        rw [e2] at h
        simp only at h
        obtain ⟨i1, i2, i3, i4, i5⟩ := k2.2.2.2.2.2.2.2 (yId_n e2).1
        obtain ⟨a1, a2⟩ := yDv_v (Q := Q) (w := (nxK n t K).2.2.2) (i := (nxK n t (nxK n t K)).2.2.2) ⟨i4, i2⟩ hN hB
        split at h
        · rename_i e3; cases h; exact yPar_s hn k3 e3
        · rename_i Q1 K1 e3
          have := yPar_v k3 e3 a1 a2
          split at h
          · rename_i e4; cases h; exact yNeeds_s2 hn _ _ _ this.2.2.1 e4
          · cases h
  · cases h; exact er_s hn hK (by decide) (by decide)
theorem yPats_s2 (hn : n ≤ 648) : ∀ (f : Nat) (Q : QT) (K : Tk), TkI n t K → yPats n t f Q K = .error e → sme e := by
  intro f
  induction f with
  | zero => intro Q K hK h; unfold yPats at h; cases h; exact er_s hn hK (by decide) (by decide)
  | succ f ih =>
    intro Q K hK h
    rw [yPats_s] at h
    split at h
    · split at h
      · exact ih _ _ (nxK_i (nxK_i hK)) h
      · cases h
    · cases h; exact er_s hn (nxK_i hK) (by decide) (by decide)
theorem yVal_s {z : Nat} (hn : n ≤ 648) (hK : TkI n t K) (h : yVal n t z Q K = .error e) : sme e := by
  unfold yVal at h
  split at h
  · cases h
  · split at h
    · split at h
      · split at h
        · cases h
        · cases h; exact er_s hn hK (by decide) (by decide)
      · cases h; exact er_s hn hK (by decide) (by decide)
    · cases es : ySup Q K with
      | error y => rw [es] at h; cases h; exact ySup_s hn hK es
      | ok y => obtain ⟨Q1, s⟩ := y; rw [es] at h; cases h
theorem ySteps_s2 (hn : n ≤ 648) : ∀ (f : Nat) (Q : QT) (K : Tk), TkI n t K → QN Q → QB Q → (Q.2.2.2.1 Q.1.2.1).length + f = 6 → ySteps n t f Q K = .error e → sme e := by
  intro f
  induction f with
  | zero =>
    intro Q K hK hN hB hf h
    unfold ySteps at h
    cases es : stw K with
    | none => rw [es] at h; cases h
    | some z => rw [es] at h; cases h; exact er_s hn hK (by decide) (by decide)
  | succ f ih =>
    intro Q K hK hN hB hf h
    rw [ySteps_s] at h
    cases es : stw K with
    | none => rw [es] at h; cases h
    | some z =>
      rw [es] at h
      simp only at h
      cases e2 : yVal n t z Q (nxK n t K) with
      | error y => rw [e2] at h; cases h; exact yVal_s hn (nxK_i hK) e2
      | ok y =>
        obtain ⟨Q1, v, K1⟩ := y
        rw [e2] at h
        obtain ⟨a1, a2, a3, a4, a5, a6, a7, a8, a9⟩ := yVal_v (stw_le es).1 (nxK_i hK) e2 hN hB
        have e1 : Q1.1.2.1 = Q.1.2.1 := by rw [a9]
        have e3 : Q1.2.2.2.1 = Q.2.2.2.1 := by rw [a9]
        exact ih (ySp Q1 (z, v)) K1 a3 a1 (ySp_v (Q := Q1) (z := (z, v)) (by rw [e1, e3]; omega) ⟨(stw_le es).1, a4, a5, a6, a7⟩ a2) (by show (va_up Q1.2.2.2.1 Q1.1.2.1 (Q1.2.2.2.1 Q1.1.2.1 ++ [_]) Q1.1.2.1).length + f = 6; rw [va_up_self, List.length_append, e1, e3]; show _ + 1 + f = 6; omega) h
theorem yDrvL_s (hn : n ≤ 648) (hK : TkI n t K) (hN : QN Q) (hB : QB Q) (hE : QE Q) (h : yDrvL n t Q K = .error e) : sme e := by
  have k1 := nxK_i hK
  unfold yDrvL at h
  split at h
  · cases e1 : yNew Q (nxK n t K) with
    | some z => rw [e1] at h; cases h; exact yNew_s hn k1 e1
    | none =>
      rw [e1] at h
      simp only at h
      have a1 : QN (yVn Q (nxK n t K).2.2.2) := ⟨hN.1, hN.2.1, hN.2.2.1, hN.2.2.2.1, fun x hx => by
        show wrd (va_up Q.2.2.2.2.2.2.1 Q.1.2.1 _ x)
        have hx' : x < Q.1.2.1 := hx
        rw [va_up_ne _ _ (by omega)]
        exact hN.2.2.2.2.1 x hx', hN.2.2.2.2.2⟩
      split at h
      · rename_i e3; cases h; exact yPats_s2 hn _ _ _ k1 e3
      · rename_i Q1 K1 e3
        obtain ⟨b1, b2, b3, b4, b5⟩ := yPats_v 3 (yVn Q (nxK n t K).2.2.2) _ k1 (by show (Q.2.2.2.2.2.2.2.1 Q.1.2.1).length + 3 = 3; rw [(hE.2 _ (Nat.le_refl _)).2]; rfl) e3 a1 hB
        have e4 : Q1.1.2.1 = Q.1.2.1 := by rw [b5]; rfl
        have e5 : Q1.2.2.2.1 = Q.2.2.2.1 := by rw [b5]; rfl
        split at h
        · rename_i e6; cases h; exact ySteps_s2 hn _ _ _ b3 b1 b2 (by rw [e4, e5, (hE.2 _ (Nat.le_refl _)).1]; rfl) e6
        · cases h
  · cases h; exact er_s hn hK (by decide) (by decide)
theorem yMain_s (hn : n ≤ 648) : ∀ (f : Nat) (Q : QT) (K : Tk), TkI n t K → QN Q → QB Q → QE Q → Q.1.1 + Q.1.2.1 + f = 21 → yMain n t f Q K = .error e → sme e := by
  intro f
  induction f with
  | zero => intro Q K hK hN hB hE hf h; have := hN.1; have := hN.2.1; omega
  | succ f ih =>
    intro Q K hK hN hB hE hf h
    unfold yMain at h
    split at h
    · cases h
    · cases es : yLine n t Q K with
      | error y =>
        rw [es] at h
        cases h
        unfold yLine at es
        split at es
        · exact yDevL_s hn hK hN hB es
        · split at es
          · exact yDrvL_s hn hK hN hB hE es
          · cases es; exact er_s hn hK (by decide) (by decide)
      | ok y =>
        obtain ⟨Q1, K1⟩ := y
        rw [es] at h
        simp only at h
        obtain ⟨a1, a2, a3, a4, a5⟩ := yLine_v hK es hN hB hE
        split at h
        · exact ih Q1 _ (nxK_i a4) a1 a2 a3 (by omega) h
        · cases h; exact er_s hn a4 (by decide) (by decide)
theorem yBoard_b (hn : n ≤ 648) (h : yBoard n t = .error e) : 1 ≤ e ∧ e ≤ 5188 := yMain_s hn 21 Q0 _ (tok_i n t (Nat.zero_le _)) Q0_v.1 Q0_v.2.1 Q0_v.2.2 rfl h
end QERR
