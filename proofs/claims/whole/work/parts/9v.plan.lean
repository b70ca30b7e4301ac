-- THE PLAN THAT A TEXT TELLS
/-- the plan -/
def plQ (Q : QT) : PT := (Q.1, Q.2.1, Q.2.2.1, Q.2.2.2.1, fun v x => bsc (Q.2.2.2.2.2.1 x) (Q.2.2.2.2.2.2.2.1 v), fun x => rkN (fun v => bsc (Q.2.2.2.2.2.1 x) (Q.2.2.2.2.2.2.2.1 v)) Q.1.2.1)
theorem plQ_v {Q : QT} (hN : QN Q) (hB : QB Q) : PV (plQ Q) := by
  refine ⟨hN.1, hN.2.1, hN.2.2.1, fun x _ y hy => hB.1 x y hy, fun x _ => hB.2.1 x, fun v _ => hB.2.2.1 v, fun v x a h => ?_, fun x _ => ⟨rkN_p _ _, fun v => rkN_m _⟩⟩
  exact bsc_le _ (Q.2.2.2.2.2.2.2.1 v) rfl (fun w hw => ((hB.2.2.2.1 v).2 w hw).1) a h
theorem plQ_m {Q : QT} {sd : Nat} {I : Nat → Nat → Int32} {L : Nat → Nat → Int64} (hN : QN Q) (hB : QB Q) (hs : sd ≤ 1) (h18 : I 257 18 = nI sd) (h : RM Q.1.1 Q.1.2.1 Q sd I L) : PM (plQ Q) sd I := by
  obtain ⟨⟨r1, r2, r3⟩, s, h3, h4, h5, h6, h7⟩ := h
  refine ⟨hs, h18, r1, r2, r3, fun x hx => ⟨h4 x hx, (h5 x hx).1, (h5 x hx).2⟩, fun v hv => ⟨(h7 v hv).1, (h7 v hv).2⟩, fun ρ d c R L K hK hk18 v x hv hx => ?_⟩
  have g12 := hN.1
  have g8 := hN.2.1
  have hv' : v < Q.1.2.1 := hv
  have hx' : x < Q.1.1 := hx
  obtain ⟨x1, x2⟩ := h3 x hx
  obtain ⟨y1, y2⟩ := h6 v hv
  obtain ⟨z1, z2'⟩ := hB.2.2.2.2 x
  obtain ⟨w1, w2⟩ := hB.2.2.2.1 v
  refine M_scoreOf_e (d := d + 1) (i := Q.2.2.2.2.2.1 x) (ps := Q.2.2.2.2.2.2.2.1 v) hk18 hs (by omega) (by omega) z1 (by rw [hK 262 (by decide)]; exact x1) (fun k z hz => ⟨by rw [hK 261 (by decide)]; exact x2 k z hz, by have := isSg_lt (z2' z (List.mem_of_getElem? hz)); omega⟩) w1 (by rw [hK 267 (by decide)]; exact y1) (fun a w hw => ?_)
  obtain ⟨u1, u2⟩ := y2 a w hw
  obtain ⟨v1, v2⟩ := w2 w (List.mem_of_getElem? hw)
  exact ⟨v1, by rw [hK 269 (by decide)]; exact u1, fun k z hz => ⟨by rw [hK 268 (by decide)]; exact u2 k z hz, by have := isSg_lt (v2 z (List.mem_of_getElem? hz)); omega⟩⟩
section CPLAN
variable {ρ : Nat × (Nat → Int32)} {d : Nat} {c : Nat × Nat} {R : Nat → Nat → Option Nat} {I J : Nat → Nat → Int32} {L : Nat → Nat → Int64} {n : Nat} {t : Nat → Nat} {p : Nat} {Q : QT} {K : Tk}
/-- the scores of device x are there -/
def SX (Q : QT) (p x r : Nat) (I : Nat → Nat → Int32) : Prop := (∀ v, v < r → I (p + 16 + v) x = eO (bsc (Q.2.2.2.2.2.1 x) (Q.2.2.2.2.2.2.2.1 v))) ∧ (∀ k y, (rkN (fun v => bsc (Q.2.2.2.2.2.1 x) (Q.2.2.2.2.2.2.2.1 v)) r)[k]? = some y → I (p + 25 + x) k = nI y) ∧ I (p + 37) x = nI (rkN (fun v => bsc (Q.2.2.2.2.2.1 x) (Q.2.2.2.2.2.2.2.1 v)) r).length
theorem sa_in {x : Nat} (hN : QN Q) (hB : QB Q) (hx : x < Q.1.1) (hp : isP p) (h3 : R 3 1 = some p) : ∀ (j r : Nat) (I : Nat → Nat → Int32), Q.1.2.1 - r = j → r ≤ Q.1.2.1 → TC n t I → RCc Q p I → RCi n t Q.1.1 Q I → RCt n t Q p I → SX Q p x r I → ∃ J, EV ρ (d + 6) 152 15 [.ref 3, .int (nI x), .int (nI r)] [] (mk c R I L) = EV ρ (d + 6) 152 2 [.ref 3, .int (nI (x + 1)), zU] [] (mk c R J L) ∧ SX Q p x Q.1.2.1 J ∧ ∀ q j, ¬ (p + 16 ≤ q ∧ q ≤ p + 23 ∧ j = x) → q ≠ p + 25 + x → ¬ (q = p + 37 ∧ j = x) → J q j = I q j := by
  have hpg := isP_g hp
  have g12 := hN.1
  have g8 := hN.2.1
  intro j
  induction j with
  | zero =>
    intro r I hj hr hT hc hi ht hs
    have e : r = Q.1.2.1 := by omega
    subst e
    rw [bPar_scoreAll_15, h3, zrs, zob (xp_o hp), hc.2.1, if_pos (nI_le (Nat.le_refl _) (by omega)), nI_add]
    exact ⟨I, rfl, hs, fun _ _ _ _ _ => rfl⟩
  | succ j ih =>
    intro r I hj hr hT hc hi ht hs
    obtain ⟨z1, z2'⟩ := hB.2.2.2.2 x
    obtain ⟨w1, w2⟩ := hB.2.2.2.1 r
    obtain ⟨y1, y2⟩ := ht r (by omega)
    rw [bPar_scoreAll_15, h3, zrs, zob (xp_o hp), hc.2.1, if_neg (nI_ge (by omega) (by omega)), Par_best_e (d := d + 1) (i := Q.2.2.2.2.2.1 x) (ps := Q.2.2.2.2.2.2.2.1 r) hp h3 hT (by omega) (by omega) z1 (hi x hx) (fun z hz => isSg_lt (z2' z hz)) w1 y1 (fun a w hw => ⟨(w2 w (List.mem_of_getElem? hw)).1, fun z hz => isSg_lt ((w2 w (List.mem_of_getElem? hw)).2 z hz), y2 a w hw⟩), zci, bPar_scoreAll_38]
    show ∃ J, zref (.ref p) _ = _ ∧ _
    obtain ⟨J, b1, b2, b3, b4, b5⟩ := Pla_score_e (ρ := ρ) (d := d + 4) (c := c) (R := R) (I := I) (L := L) (p := p) (x := x) (r := r) (s := fun v => bsc (Q.2.2.2.2.2.1 x) (Q.2.2.2.2.2.2.2.1 v)) hp (by omega) (by omega) (fun v b hb => by
      have := bsc_le _ (Q.2.2.2.2.2.2.2.1 v) rfl (fun w hw => ((hB.2.2.2.1 v).2 w hw).1) b hb
      omega) hs.1 hs.2.1 hs.2.2
    rw [zrv, zob (xp_o hp), b1, zcv, bPar_scoreAll_41, nI_add]
    have hJ : ∀ q, ¬ (p + 16 ≤ q ∧ q ≤ p + 37) → J q = I q := fun q hq => by funext j; exact b5 q j (by omega) (by omega) (by omega)
    obtain ⟨J2, g1, g2, g3⟩ := ih (r + 1) J (by omega) (by omega) (TC_to hT (hJ 1 (by omega)) (hJ 2 (by omega))) (by unfold RCc at hc ⊢; rw [hJ p (by omega)]; exact hc) (by unfold RCi at hi ⊢; rw [hJ 4 (by omega), hJ 5 (by omega)]; exact hi) (by unfold RCt at ht ⊢; rw [hJ (p + 9) (by omega), hJ 6 (by omega), hJ 7 (by omega)]; exact ht) ⟨b2, b3, b4⟩
    exact ⟨J2, g1, g2, fun q j y1 y2 y3 => by rw [g3 q j y1 y2 y3, b5 q j (by omega) y2 y3]⟩
theorem sa_out (hN : QN Q) (hB : QB Q) (hp : isP p) (h3 : R 3 1 = some p) : ∀ (j x : Nat) (I : Nat → Nat → Int32), Q.1.1 - x = j → x ≤ Q.1.1 → TC n t I → RCc Q p I → RCi n t Q.1.1 Q I → RCt n t Q p I → (∀ y, y < x → SX Q p y Q.1.2.1 I) → (∀ y, x ≤ y → y < 12 → I (p + 37) y = nI 0) → ∃ J, EV ρ (d + 6) 152 2 [.ref 3, .int (nI x), zU] [] (mk c R I L) = some ([], mk c R J L) ∧ (∀ y, y < Q.1.1 → SX Q p y Q.1.2.1 J) ∧ ∀ q, ¬ (p + 16 ≤ q ∧ q ≤ p + 37) → J q = I q := by
  have hpg := isP_g hp
  have g12 := hN.1
  have g8 := hN.2.1
  intro j
  induction j with
  | zero =>
    intro x I hj hx hT hc hi ht hs h0
    have e : x = Q.1.1 := by omega
    subst e
    rw [bPar_scoreAll_2, h3, zrs, zob (xp_o hp), hc.1, if_pos (nI_le (Nat.le_refl _) (by omega))]
    exact ⟨I, rfl, hs, fun _ _ => rfl⟩
  | succ j ih =>
    intro x I hj hx hT hc hi ht hs h0
    rw [bPar_scoreAll_2, h3, zrs, zob (xp_o hp), hc.1, if_neg (nI_ge (by omega) (by omega))]
    obtain ⟨J, b1, b2, b3⟩ := sa_in (ρ := ρ) (d := d) (c := c) (R := R) (L := L) (x := x) hN hB (by omega) hp h3 _ 0 I rfl (Nat.zero_le _) hT hc hi ht ⟨fun v hv => absurd hv (Nat.not_lt_zero _), fun k y hy => (by cases hy), h0 x (Nat.le_refl _) (by omega)⟩
    have hJ : ∀ q, ¬ (p + 16 ≤ q ∧ q ≤ p + 37) → J q = I q := fun q hq => by funext j; exact b3 q j (by omega) (by omega) (by omega)
    obtain ⟨J2, g1, g2, g3⟩ := ih (x + 1) J (by omega) (by omega) (TC_to hT (hJ 1 (by omega)) (hJ 2 (by omega))) (by unfold RCc at hc ⊢; rw [hJ p (by omega)]; exact hc) (by unfold RCi at hi ⊢; rw [hJ 4 (by omega), hJ 5 (by omega)]; exact hi) (by unfold RCt at ht ⊢; rw [hJ (p + 9) (by omega), hJ 6 (by omega), hJ 7 (by omega)]; exact ht) (fun y hy => by
      by_cases ey : y = x
      · rw [ey]; exact b2
      · obtain ⟨u1, u2, u3⟩ := hs y (by omega)
        refine ⟨fun v hv => ?_, fun k z hz => ?_, ?_⟩
        · rw [b3 _ _ (by omega) (by omega) (by omega)]; exact u1 v hv
        · rw [b3 _ _ (by omega) (by omega) (by omega)]; exact u2 k z hz
        · rw [b3 _ _ (by omega) (by omega) (by omega)]; exact u3) (fun y hy1 hy2 => by rw [b3 _ _ (by omega) (by omega) (by omega)]; exact h0 y (by omega) hy2)
    rw [b1]
    exact ⟨J2, g1, g2, fun q hq => by rw [g3 q hq, hJ q hq]⟩
/-- a plan's names and counts of patterns, as the component keeps them -/
def NMc (Q : QT) (p : Nat) (I : Nat → Nat → Int32) (L : Nat → Nat → Int64) : Prop := RCn Q.1.1 Q.1.2.1 Q p L ∧ ∀ v, v < Q.1.2.1 → I (p + 9) v = nI (Q.2.2.2.2.2.2.2.1 v).length
/-- all is scored -/
theorem Par_score_e (hN : QN Q) (hB : QB Q) (h : CS n t Q.1.1 Q.1.2.1 Q p K R I L) : ∃ J, EV ρ (d + 6) 152 0 [.ref 3, zU, zU] [] (mk c R I L) = some ([], mk c R J L) ∧ PC (plQ Q) p R J ∧ NMc Q p J L ∧ ∀ q, ¬ (p + 16 ≤ q ∧ q ≤ p + 37) → J q = I q := by
  obtain ⟨a1, a2, a3, a4, a5, a6⟩ := h
  have hpg := isP_g a2
  have g12 := hN.1
  have g8 := hN.2.1
  obtain ⟨r1, r2, r3, r4, r5, r6, r7, r8⟩ := a6
  obtain ⟨J, b1, b2, b3⟩ := sa_out (ρ := ρ) (d := d) (c := c) (R := R) (L := L) hN hB a2 a3 _ 0 I rfl (Nat.zero_le _) a1 r1 r3 r6 (fun y hy => absurd hy (Nat.not_lt_zero _)) (fun y _ hy => r8 y hy)
  rw [bPar_scoreAll_0]
  refine ⟨J, b1, ⟨a2, ?_, ?_, ?_, fun x hx => ?_, fun v hv => ?_⟩, ⟨r2, fun v hv => ?_⟩, b3⟩
  · rw [b3 p (by omega)]; exact r1.1
  · rw [b3 p (by omega)]; exact r1.2.1
  · rw [b3 p (by omega)]; exact r1.2.2
  · have hx' : x < Q.1.1 := hx
    obtain ⟨u1, u2, u3⟩ := b2 x hx
    obtain ⟨p1, p2⟩ := r4 x (by omega)
    obtain ⟨e1, e2, e3⟩ := r5 x (by omega)
    refine ⟨?_, ?_, ?_, fun k z hz => ?_, ?_, u3, u2⟩
    · rw [b3 (p + 4) (by omega)]; exact p1
    · rw [b3 (p + 5) (by omega)]; exact p2
    · rw [b3 (p + 6) (by omega)]; exact e1
    · rw [b3 (p + 7) (by omega)]; exact e2 k z hz
    · rw [b3 (p + 8) (by omega)]; exact e3
  · have hv' : v < Q.1.2.1 := hv
    obtain ⟨s1, s2, s3, s4⟩ := r7 v (by omega)
    refine ⟨?_, fun k z hz => ⟨(s2 k z hz).1, ?_⟩, ?_, ?_, fun x hx => (b2 x hx).1 v hv⟩
    · rw [b3 (p + 10) (by omega)]; exact s1
    · rw [b3 (p + 12) (by omega)]; exact (s2 k z hz).2
    · rw [b3 (p + 13) (by omega)]; exact s3
    · rw [b3 (p + 14) (by omega)]; exact s4
  · rw [b3 (p + 9) (by omega)]; exact (r6 v (by omega)).1
end CPLAN
