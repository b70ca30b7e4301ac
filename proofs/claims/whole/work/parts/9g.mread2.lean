-- THE REFERENCE READS: supplies, signs, numbers
section MREAD2
variable {ρ : Nat × (Nat → Int32)} {d : Nat} {c : Nat × Nat} {R : Nat → Nat → Option Nat} {I J : Nat → Nat → Int32} {L L' : Nat → Nat → Int64} {n : Nat} {t : Nat → Nat} {sd m u : Nat} {Q Q' : QT} {K : Tk} {e : Nat}
def MS0 (n : Nat) (t : Nat → Nat) (sd : Nat) (K : Tk) (I : Nat → Nat → Int32) (L : Nat → Nat → Int64) : Prop := TP n t I ∧ I 257 18 = nI sd ∧ sd ≤ 1 ∧ I 257 28 = nI 0 ∧ TkR K I L
theorem MS_0 (h : MS n t sd m u Q K I L) : MS0 n t sd K I L := ⟨h.1, h.2.1, h.2.2.1, h.2.2.2.1, h.2.2.2.2.1⟩
theorem MS_i (h : MS0 n t sd K I L) (h2 : RM m u Q (1 - sd) I L) : MS n t sd m u Q K I L := ⟨h.1, h.2.1, h.2.2.1, h.2.2.2.1, h.2.2.2.2, h2⟩
theorem MS0_to (h : MS0 n t sd K I L) (h1 : J 257 = I 257) (h2 : J 258 = I 258) (h3 : L' 257 = L 257) : MS0 n t sd K J L' := by
  unfold MS0 TP TkR at h ⊢
  rw [h1, h2, h3]
  exact h
theorem MS0_next (hK : TkI n t K) (h : MS0 n t sd K I L) (h5 : K.1 ≠ 5) : ∃ J L', EV ρ (d + 3) 18 0 [.ref 257, zU, zU] [] (mk c R I L) = some ([], mk c R J L') ∧ MS0 n t sd (nxK n t K) J L' ∧ FS7 I J ∧ FS7 L L' := by
  obtain ⟨a1, a2, a3, a4, a5⟩ := h
  obtain ⟨J, L', b1, b2, b3, b4⟩ := M_next_e (ρ := ρ) (d := d) (c := c) (R := R) (L := L) a1 hK.2.2.1 (a5.2.2.1 h5) a4
  exact ⟨J, L', b1, ⟨TP_to a1 b3, (b3 _ _ (by omega)).trans a2, a3, (b3 _ _ (by omega)).trans a4, b2⟩, b3, b4⟩
theorem wr_o {y : Nat} : ∀ q, q ≠ 257 → q ≠ 259 → wr I y q = I q := fun q hq _ => by unfold wr; rw [z2_ne hq, z2_ne hq]
/-- a supply more -/
theorem RM_sup {b : Nat} {w : List Nat} (h : RM m u Q b I L) : RM m u (q_ns (q_sn Q (va_up Q.2.2.2.2.2.2.2.2 Q.1.2.2 w)) (Q.1.2.2 + 1)) b (z2 I 259 (3 * b + 2) (nI (Q.1.2.2 + 1))) (z2 L 273 (8 * b + Q.1.2.2) (c56 w)) := by
  obtain ⟨⟨r1, r2, r3⟩, ⟨s1, s2, s3⟩, h3, h4, h5, h6, h7⟩ := h
  refine ⟨⟨?_, ?_, ?_⟩, ⟨fun x hx => ?_, fun x hx => ?_, fun x hx => ?_⟩, ?_, ?_, ?_, ?_, ?_⟩
  · rw [z2a, if_neg (by omega)]; exact r1
  · rw [z2a, if_neg (by omega)]; exact r2
  · rw [z2_at]
  · rw [z2_ne (by decide)]; exact s1 x hx
  · rw [z2_ne (by decide)]; exact s2 x hx
  · have hx' : x < Q.1.2.2 + 1 := hx
    show _ = c56 (va_up Q.2.2.2.2.2.2.2.2 Q.1.2.2 w x)
    by_cases ex : x = Q.1.2.2
    · rw [ex, z2_at, va_up_self]
    · rw [z2a, if_neg (by omega), va_up_ne _ _ ex]; exact s3 x (by omega)
  · unfold RMi at h3 ⊢; rw [z2_ne (by decide), z2_ne (by decide)]; exact h3
  · unfold RMp at h4 ⊢; rw [z2_ne (by decide)]; exact h4
  · unfold RMe at h5 ⊢; rw [z2_ne (by decide), z2_ne (by decide)]; exact h5
  · unfold RMt at h6 ⊢; rw [z2_ne (by decide), z2_ne (by decide), z2_ne (by decide)]; exact h6
  · unfold RMs at h7 ⊢; rw [z2_ne (by decide), z2_ne (by decide), z2_ne (by decide)]; exact h7
theorem M_supply_t (hK : TkI n t K) (hN : QN Q) (h : MS n t sd m u Q K I L) : ∃ v J L', EV ρ (d + 4) 26 0 [.ref 257, zU, zU, zU, zU] [] (mk c R I L) = some ([.int v], mk c R J L') ∧ FPM (1 - sd) I J ∧ FPM (1 - sd) L L' ∧ (∀ q, q ≠ 257 → q ≠ 259 → J q = I q) ∧ (match ySup Q K with
    | .ok (Q', s) => v = nI s ∧ MS n t sd m u Q' (nxK n t K) J L'
    | .error e => FSt e J) := by
  have h' := h
  obtain ⟨a1, a2, a3, a4, a5, a6⟩ := h
  have a6' := a6
  obtain ⟨⟨r1, r2, r3⟩, ⟨s1, s2, s3⟩, a7⟩ := a6
  have hn := a1.2.1
  have h8 := hN.2.2.1
  unfold ySup
  rw [bM_supplyTold_0, M_freeWord_e hK a4 a5, zcl, bM_supplyTold_4]
  by_cases c1 : fre K = true
  · have hk1 := (fre_i c1).1
    have hw := hK.2.2.2.2.1 hk1
    rw [if_pos c1, if_pos c1, a4, if_pos (by decide), a2, pk_sub (by omega), pk_mul, pk_mul, nI_add, zidx_n (by omega) (by decide), r3, a5.2.2.2.1 hk1, M_found_e (q := 273) (N := 16) (f := Q.2.2.2.2.2.2.2.2) rfl (by decide) (by omega) (fun k hk => ⟨s3 k hk, hN.2.2.2.2.2 k hk⟩) hw, zci, bM_supplyTold_44, pk_mul, nI_add, pk_mul]
    cases e1 : fnd Q.2.2.2.2.2.2.2.2 Q.1.2.2 K.2.2.2 with
    | some z =>
      rw [if_pos (show (0 : Int32) ≤ eO (some z) from nI_pos' (fnd_b (by omega) z e1)), bM_supplyTold_112]
      obtain ⟨J, L', b1, b2, b3, b4⟩ := MS_next (ρ := ρ) (d := d) (c := c) (R := R) hK h' (by omega)
      rw [b1, zcv, bM_supplyTold_116]
      exact ⟨_, J, L', rfl, FPM_7 b3, FPM_7 b4, fun q hq _ => FS7_c b3 hq, rfl, b2⟩
    | none =>
      rw [if_neg (by decide), zidx_n (by omega) (by decide), r3]
      by_cases c2 : Q.1.2.2 < 8
      · rw [if_neg (fun z => by have := (nI_eq (by omega) (by omega)).mp z; omega), zidx_n (by omega) (by decide), r3, nI_add, zidx_n (by omega) (by decide), bM_supplyTold_98, pk_mul, nI_add, zidx_n (by omega) (by decide), zidx_n (by omega) (by decide), r3, nI_add, bM_supplyTold_112]
        have h2 : MS n t sd m u (q_ns (q_sn Q (va_up Q.2.2.2.2.2.2.2.2 Q.1.2.2 K.2.2.2)) (Q.1.2.2 + 1)) K (z2 I 259 (3 * (1 - sd) + 2) (nI (Q.1.2.2 + 1))) (z2 L 273 (8 * (1 - sd) + Q.1.2.2) (c56 K.2.2.2)) := MS_i (MS0_to (MS_0 h') (z2_ne (by decide)) (z2_ne (by decide)) (z2_ne (by decide))) (RM_sup a6')
        obtain ⟨J, L', b1, b2, b3, b4⟩ := MS_next (ρ := ρ) (d := d) (c := c) (R := R) hK h2 (by omega)
        rw [b1, zcv, bM_supplyTold_116]
        simp only [if_pos c2]
        refine ⟨_, J, L', rfl, FPM_t (FPM_z FPM_r (by decide) (by decide) ?_ ?_) (FPM_7 b3), FPM_t (FPM_z FPM_r (by decide) (by decide) ?_ ?_) (FPM_7 b4), fun q hq hq2 => by rw [FS7_c b3 hq, z2_ne hq2], rfl, b2⟩
        · show 3 * (1 - sd) ≤ _; omega
        · show _ < 3 * (1 - sd) + 3; omega
        · show 8 * (1 - sd) ≤ _; omega
        · show _ < 8 * (1 - sd) + 8; omega
      · have hF := FSt_w hK hn a5 (y := 4) (by decide) (by decide)
        rw [if_pos (by rw [show Q.1.2.2 = 8 from by omega]), M_wrong_e (d := d + 2) a4, zcv, bM_supplyTold_71]
        simp only [if_neg c2]
        exact ⟨_, _, _, rfl, FPM_w FPM_r, FPM_r, wr_o, hF⟩
  · have hF := FSt_w hK hn a5 (y := 1) (by decide) (by decide)
    rw [if_neg c1, if_neg (FSt_n hF).1, if_neg c1]
    exact ⟨_, _, _, rfl, FPM_w FPM_r, FPM_r, wr_o, hF⟩
theorem M_supply_f (h : FSt e I) : EV ρ (d + 4) 26 0 [.ref 257, zU, zU, zU, zU] [] (mk c R I L) = some ([.int (-1)], mk c R I L) := by
  rw [bM_supplyTold_0, M_freeWord_f h, zcl, bM_supplyTold_4, if_neg (FSt_n h).1]
/-- a number -/
theorem M_number_t (hK : TkI n t K) {lo hi : Nat} (hlo : lo ≤ 99) (hhi : hi ≤ 99) (h : MS n t sd m u Q K I L) : ∃ v J L', EV ρ (d + 4) 28 0 [.ref 257, .int (nI lo), .int (nI hi), zU] [] (mk c R I L) = some ([.int v], mk c R J L') ∧ FPM (1 - sd) I J ∧ FPM (1 - sd) L L' ∧ (∀ q, q ≠ 257 → q ≠ 259 → J q = I q) ∧ (if K.1 = 2 then (if lo ≤ nmb K ∧ nmb K ≤ hi then v = nI (nmb K) ∧ MS n t sd m u Q (nxK n t K) J L' else FSt (er K 2) J) else FSt (er K 1) J) := by
  have h' := h
  obtain ⟨a1, a2, a3, a4, a5, a6⟩ := h
  have hn := a1.2.1
  have hk := hK.1
  rw [bM_numberTold_0, a4, if_pos (by decide), a5.1]
  by_cases c1 : K.1 = 2
  · have h99 := nmb_le hK c1
    simp only [if_pos c1]
    rw [if_pos (by rw [c1]), bM_numberTold_20, a4, if_pos (by decide), a5.2.2.2.2 c1, M_within_e, zci, bM_numberTold_36]
    by_cases c2 : lo ≤ nmb K ∧ nmb K ≤ hi
    · simp only [if_pos c2]
      rw [decide_eq_true (show ¬ nI (nmb K) < nI lo ∧ ¬ nI hi < nI (nmb K) from ⟨nI_nlt c2.1 (by omega), nI_nlt c2.2 (by omega)⟩), if_neg (by decide), bM_numberTold_44, a5.2.2.2.2 c1]
      obtain ⟨J, L', b1, b2, b3, b4⟩ := MS_next (ρ := ρ) (d := d) (c := c) (R := R) hK h' (by omega)
      rw [b1, zcv, bM_numberTold_53]
      exact ⟨_, J, L', rfl, FPM_7 b3, FPM_7 b4, fun q hq _ => FS7_c b3 hq, rfl, b2⟩
    · have hF := FSt_w hK hn a5 (y := 2) (by decide) (by decide)
      rw [decide_eq_false (show ¬ (¬ nI (nmb K) < nI lo ∧ ¬ nI hi < nI (nmb K)) from fun z => c2 ⟨Nat.le_of_not_lt (fun g => z.1 (nI_lt g (by omega))), Nat.le_of_not_lt (fun g => z.2 (nI_lt g (by omega)))⟩), if_pos (by decide), M_wrong_e (d := d + 2) a4, zcv, bM_numberTold_44, M_next_f (d := d + 2) hF, zcv, bM_numberTold_53]
      simp only [if_neg c2]
      exact ⟨_, _, _, rfl, FPM_w FPM_r, FPM_r, wr_o, hF⟩
  · have hF := FSt_w hK hn a5 (y := 1) (by decide) (by decide)
    rw [if_neg (fun z => c1 ((nI_eq (by omega) (by omega)).mp z)), M_wrong_e (d := d + 2) a4, zcv, bM_numberTold_20, if_neg (FSt_n hF).2, bM_numberTold_44, M_next_f (d := d + 2) hF, zcv, bM_numberTold_53]
    simp only [if_neg c1]
    exact ⟨_, _, _, rfl, FPM_w FPM_r, FPM_r, wr_o, hF⟩
theorem all_s {p : Nat → Bool} {b k : Nat} (h : b ≤ k) : (slc t b (k + 1)).all p = ((slc t b k).all p && p (t k)) := by
  rw [slc_s t h, List.all_append]
  show ((slc t b k).all p && (p (t k) && true)) = _
  rw [Bool.and_true]
/-- so far no fault, or the signs are not plain -/
def FK (pl : Bool) (t : Nat → Nat) (b k : Nat) (I : Nat → Nat → Int32) : Prop := (pl && !(slc t (b + 1) (b + 1 + k)).all isLi) = false ∧ I 257 28 = nI 0 ∨ (pl && !(slc t (b + 1) (b + 1 + k)).all isLi) = true ∧ I 257 28 = nI 2 ∧ I 257 29 = nI b
theorem cp_loop {q N a b l : Nat} {pl : Bool} (hq : oka q 20 N = true) (hqn : q ≠ 257 ∧ q ≠ 258) (hN : N < 2 ^ 20) (ha : a + l ≤ N) (hb : b + 1 + l ≤ n) : ∀ (j k : Nat) (I : Nat → Nat → Int32), l - k = j → k ≤ l → TP n t I → I 257 24 = nI b → FK pl t b k I →
    ∃ J, EV ρ (d + 4) 27 40 [.ref 257, .ref q, .int (nI a), .int (bo pl), .int (nI l), .int (nI k), zU] [] (mk c R I L) = EV ρ (d + 4) 27 40 [.ref 257, .ref q, .int (nI a), .int (bo pl), .int (nI l), .int (nI l), zU] [] (mk c R J L) ∧ (∀ i, k ≤ i → i < l → J q (a + i) = nI (t (b + 1 + i))) ∧ (∀ q' j', ¬ (q' = q ∧ a + k ≤ j' ∧ j' < a + l) → ¬ (q' = 257 ∧ (j' = 28 ∨ j' = 29)) → J q' j' = I q' j') ∧ FK pl t b l J := by
  intro j
  induction j with
  | zero =>
    intro k I hj hk hT h24 hF
    have e : k = l := by omega
    subst e
    exact ⟨I, rfl, fun i h1 h2 => absurd h2 (Nat.not_lt.mpr h1), fun _ _ _ _ => rfl, hF⟩
  | succ j ih =>
    intro k I hj hk hT h24 hF
    have hn := hT.2.1
    obtain ⟨t1, t2⟩ := hT.2.2 (b + 1 + k) (by omega)
    have hgo : ∀ I2, (∀ q' j', ¬ (q' = 257 ∧ (j' = 28 ∨ j' = 29)) → I2 q' j' = I q' j') → FK pl t b (k + 1) I2 → ∃ J, EV ρ (d + 4) 27 86 [.ref 257, .ref q, .int (nI a), .int (bo pl), .int (nI l), .int (nI k), .int (nI (t (b + 1 + k)))] [] (mk c R I2 L) = EV ρ (d + 4) 27 40 [.ref 257, .ref q, .int (nI a), .int (bo pl), .int (nI l), .int (nI l), zU] [] (mk c R J L) ∧ (∀ i, k ≤ i → i < l → J q (a + i) = nI (t (b + 1 + i))) ∧ (∀ q' j', ¬ (q' = q ∧ a + k ≤ j' ∧ j' < a + l) → ¬ (q' = 257 ∧ (j' = 28 ∨ j' = 29)) → J q' j' = I q' j') ∧ FK pl t b l J := by
      intro I2 h2 hF2
      rw [bM_signsTold_86, nI_add, zar hq, zidx_n (by omega) (by omega), bM_signsTold_94, nI_add]
      obtain ⟨J, g1, g2, g3, g4⟩ := ih (k + 1) (z2 I2 q (a + k) (nI (t (b + 1 + k)))) (by omega) (by omega) ⟨by rw [z2_ne (Ne.symm hqn.1), h2 _ _ (by omega)]; exact hT.1, hn, fun i hi => by rw [z2_ne (Ne.symm hqn.2), h2 _ _ (by omega)]; exact hT.2.2 i hi⟩ (by rw [z2_ne (Ne.symm hqn.1), h2 _ _ (by omega)]; exact h24) (by unfold FK at hF2 ⊢; rw [z2_ne (Ne.symm hqn.1)]; exact hF2)
      refine ⟨J, g1, fun i h1 h3 => ?_, fun q' j' h1 h3 => ?_, g4⟩
      · by_cases ei : i = k
        · subst ei
          rw [g3 q (a + i) (by omega) (by omega), z2_at]
        · exact g2 i (by omega) h3
      · rw [g3 q' j' (by omega) h3, z2a, if_neg (by omega), h2 q' j' h3]
    have hcond : (pl && !(slc t (b + 1) (b + 1 + (k + 1))).all isLi) = ((pl && !(slc t (b + 1) (b + 1 + k)).all isLi) || (pl && !isLi (t (b + 1 + k)))) := by
      rw [show b + 1 + (k + 1) = (b + 1 + k) + 1 from by omega, all_s (by omega)]
      cases pl <;> cases (slc t (b + 1) (b + 1 + k)).all isLi <;> cases isLi (t (b + 1 + k)) <;> rfl
    have hbad : isLi (t (b + 1 + k)) = false → pl = true → ∃ J, zcV (EV ρ (d + 3) 20 0 [.ref 257, .int (nI 2)] [] (mk c R I L)) (fun s3 => EV ρ (d + 3 + 1) 27 86 [.ref 257, .ref q, .int (nI a), .int (bo pl), .int (nI l), .int (nI k), .int (nI (t (b + 1 + k)))] [] s3) = EV ρ (d + 4) 27 40 [.ref 257, .ref q, .int (nI a), .int (bo pl), .int (nI l), .int (nI l), zU] [] (mk c R J L) ∧ (∀ i, k ≤ i → i < l → J q (a + i) = nI (t (b + 1 + i))) ∧ (∀ q' j', ¬ (q' = q ∧ a + k ≤ j' ∧ j' < a + l) → ¬ (q' = 257 ∧ (j' = 28 ∨ j' = 29)) → J q' j' = I q' j') ∧ FK pl t b l J := by
      intro hl hp
      have ht : (pl && !(slc t (b + 1) (b + 1 + (k + 1))).all isLi) = true := by rw [hcond, hl, hp]; exact Bool.or_true _
      rcases hF with ⟨f1, f2⟩ | ⟨f1, f2, f3⟩
      · rw [M_wrong_e (d := d + 2) f2, zcv]
        refine hgo (wr I 2) (fun q' j' h1 => by unfold wr; rw [z2a, if_neg (by omega), z2a, if_neg (by omega)]) (.inr ⟨ht, ?_, ?_⟩)
        · unfold wr; rw [z2a, if_neg (by omega), z2_at]
        · unfold wr; rw [z2_at]; exact h24
      · have hFs : FSt (8 * b + 2) I := ⟨2, b, f2, f3, rfl, by decide, by decide, by omega⟩
        rw [M_wrong_f (d := d + 2) hFs, zcv]
        exact hgo I (fun _ _ _ => rfl) (.inr ⟨ht, f2, f3⟩)
    have hfine : (pl && !isLi (t (b + 1 + k))) = false → FK pl t b (k + 1) I := fun hz => by
      unfold FK
      rw [hcond, hz, Bool.or_false]
      exact hF
    rw [bM_signsTold_40, if_neg (nI_ge (by omega) (by omega)), h24, nI_add, nI_add, zidx_n (by omega) (by decide), t1]
    cases hp : pl
    · rw [if_pos (by decide)]
      rw [hp] at hgo hfine
      exact hgo I (fun _ _ _ => rfl) (hfine rfl)
    · rw [if_neg (by decide)]
      rw [hp] at hgo hfine hbad
      by_cases c1 : t (b + 1 + k) = 63
      · rw [if_pos (by rw [c1])]
        exact hbad (by rw [c1]; rfl) rfl
      · rw [if_neg (fun z => c1 ((nI_eq (by omega) (by omega)).mp z))]
        by_cases c2 : t (b + 1 + k) = 42
        · rw [if_pos (by rw [c2])]
          exact hbad (by rw [c2]; rfl) rfl
        · rw [if_neg (fun z => c2 ((nI_eq (by omega) (by omega)).mp z))]
          exact hgo I (fun _ _ _ => rfl) (hfine (by unfold isLi; rw [beq_eq_false_iff_ne.mpr c1, beq_eq_false_iff_ne.mpr c2]; rfl))
/-- signs come into a row -/
theorem M_signs_t (hK : TkI n t K) {q N a : Nat} {pl : Bool} (hq : oka q 20 N = true) (hq1 : 259 ≤ q) (hq2 : q ≤ 273) (hN : N < 2 ^ 20) (ha : a + 8 ≤ N) (ha1 : wdt q * (1 - sd) ≤ a) (ha2 : a + 8 ≤ wdt q * (1 - sd) + wdt q) (h : MS0 n t sd K I L) : ∃ v J L', EV ρ (d + 4) 27 0 [.ref 257, .ref q, .int (nI a), .int (bo pl), zU, zU, zU] [] (mk c R I L) = some ([.int v], mk c R J L') ∧ FPM (1 - sd) I J ∧ FPM (1 - sd) L L' ∧ (∀ q' j', q' ≠ 257 → ¬ (q' = q ∧ a ≤ j' ∧ j' < a + 8) → J q' j' = I q' j') ∧ (∀ q', q' ≠ 257 → L' q' = L q') ∧
    (if K.1 = 4 then (if pl = true ∧ ¬ K.2.2.2.all isLi = true then FSt (er K 2) J else v = nI K.2.2.2.length ∧ MS0 n t sd (nxK n t K) J L' ∧ ∀ k z, K.2.2.2[k]? = some z → J q (a + k) = nI z) else FSt (er K 1) J) := by
  have h' := h
  obtain ⟨a1, a2, a3, a4, a5⟩ := h
  have hn := a1.2.1
  have hk := hK.1
  rw [bM_signsTold_0, a4, if_pos (by decide), a5.1]
  by_cases c1 : K.1 = 4
  · obtain ⟨i1, i2, i3, i4, i5⟩ := hK.2.2.2.2.2.2.2 c1
    have haf := hK.2.2.1
    simp only [if_pos c1]
    rw [if_pos (by rw [c1]), a5.2.1, a5.2.2.1 (by omega), pk_sub (by omega), pk_sub (by omega), show K.2.2.1 - K.2.1 - 1 = K.2.2.2.length from by omega]
    obtain ⟨J, g1, g2, g3, g4⟩ := cp_loop (ρ := ρ) (d := d) (c := c) (R := R) (L := L) (n := n) (t := t) (q := q) (N := N) (a := a) (b := K.2.1) (l := K.2.2.2.length) (pl := pl) hq (by omega) hN (by omega) (by omega) _ 0 I rfl (Nat.zero_le _) a1 a5.2.1 (.inl ⟨by rw [Nat.add_zero, slc_0]; cases pl <;> rfl, a4⟩)
    have hsl : slc t (K.2.1 + 1) (K.2.1 + 1 + K.2.2.2.length) = K.2.2.2 := by rw [i5, ← i1]
    have hJf : FPM (1 - sd) I J := fun q' j' => by
      by_cases e1 : q' = q ∧ a ≤ j' ∧ j' < a + K.2.2.2.length
      · exact .inr (.inr ⟨by omega, by omega, by rw [e1.1]; omega, by rw [e1.1]; omega⟩)
      · by_cases e2 : q' = 257 ∧ (j' = 28 ∨ j' = 29)
        · exact .inr (.inl ⟨e2.1, by omega, by omega⟩)
        · exact .inl (g3 q' j' (by omega) e2)
    have hJo : ∀ q' j', q' ≠ 257 → ¬ (q' = q ∧ a ≤ j' ∧ j' < a + 8) → J q' j' = I q' j' := fun q' j' h1 h2 => g3 q' j' (by omega) (by omega)
    rw [g1, bM_signsTold_40, if_pos (nI_le (Nat.le_refl _) (by omega))]
    have hal : ∀ b : Bool, (pl && !(slc t (K.2.1 + 1) (K.2.1 + 1 + K.2.2.2.length)).all isLi) = b → ((pl = true ∧ ¬ K.2.2.2.all isLi = true) ↔ b = true) := fun b hb => by
      rw [hsl] at hb
      rw [← hb]
      cases pl <;> cases K.2.2.2.all isLi <;> decide
    rcases g4 with ⟨f1, f2⟩ | ⟨f1, f2, f3⟩
    · have hM : MS0 n t sd K J L := ⟨TP_p a1 hJf, (g3 _ _ (by omega) (by omega)).trans a2, a3, f2, (g3 _ _ (by omega) (by omega)).trans a5.1, (g3 _ _ (by omega) (by omega)).trans a5.2.1, fun z => (g3 _ _ (by omega) (by omega)).trans (a5.2.2.1 z), a5.2.2.2.1, fun z => (g3 _ _ (by omega) (by omega)).trans (a5.2.2.2.2 z)⟩
      obtain ⟨J2, L2, b1, b2, b3, b4⟩ := MS0_next (ρ := ρ) (d := d) (c := c) (R := R) hK hM (by omega)
      rw [b1, zcv, bM_signsTold_104]
      simp only [if_neg (show ¬ (pl = true ∧ ¬ K.2.2.2.all isLi = true) from fun z => by have := (hal _ f1).mp z; cases this)]
      refine ⟨_, J2, L2, rfl, FPM_t hJf (FPM_7 b3), FPM_7 b4, fun q' j' h1 h2 => by rw [FS7_c b3 h1]; exact hJo q' j' h1 h2, fun q' h1 => FS7_c b4 h1, rfl, b2, fun k z hz => ?_⟩
      have hk2 := (List.getElem?_eq_some_iff.mp hz).1
      rw [FS7_c b3 (by omega), g2 k (Nat.zero_le _) hk2]
      rw [← hsl, slc_at t _ _ (by omega)] at hz
      cases hz
      rfl
    · have hF : FSt (er K 2) J := ⟨2, K.2.1, f2, f3, rfl, by decide, by decide, by omega⟩
      rw [M_next_f (d := d + 2) hF, zcv, bM_signsTold_104]
      simp only [if_pos ((hal _ f1).mpr rfl)]
      exact ⟨_, J, L, rfl, hJf, FPM_r, hJo, fun _ _ => rfl, hF⟩
  · have hF := FSt_w hK hn a5 (y := 1) (by decide) (by decide)
    rw [if_neg (fun z => c1 ((nI_eq (by omega) (by omega)).mp z)), M_wrong_e (d := d + 2) a4, zcv, bM_signsTold_22]
    simp only [if_neg c1]
    exact ⟨_, _, _, rfl, FPM_w FPM_r, FPM_r, fun q' j' h1 h2 => by unfold wr; rw [z2_ne h1, z2_ne h1], fun _ _ => rfl, hF⟩
theorem M_signs_f (h : FSt e I) (q : Nat) (v w : Int32) : EV ρ (d + 4) 27 0 [.ref 257, .ref q, .int v, .int w, zU, zU, zU] [] (mk c R I L) = some ([.int (nI 0)], mk c R I L) := by
  rw [bM_signsTold_0, if_neg (FSt_n h).1]
end MREAD2
