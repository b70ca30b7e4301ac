-- THE REFERENCE: a board
section MBOARD
variable {ρ : Nat × (Nat → Int32)} {d : Nat} {c : Nat × Nat} {R : Nat → Nat → Option Nat} {I J : Nat → Nat → Int32} {L L' : Nat → Nat → Int64} {n : Nat} {t : Nat → Nat} {sd m u b : Nat} {Q Q' : QT} {K : Tk} {e : Nat}
/-- a fault goes out -/
theorem bd_f77 (h : FSt e I) (v1 v2 : Int32) : EV ρ (d + 7) 34 77 [.ref 257, .int v1, .int v2] [] (mk c R I L) = some ([.int (-2 - nI e)], mk c R I L) := by
  obtain ⟨y, b, g1, g2, g3, g4⟩ := id h
  rw [bM_board_77, if_neg (FSt_n h).2, if_neg (FSt_n h).1, g1, g2, pk_mul, nI_add, g3]
theorem bd_f128 (h : FSt e I) (v1 v2 : Int32) : EV ρ (d + 7) 34 128 [.ref 257, .int v1, .int v2] [] (mk c R I L) = some ([.int (-2 - nI e)], mk c R I L) := by
  rw [bM_board_128, if_neg (FSt_n h).2, bM_board_148, M_next_f (d := d + 5) h, zcv, bM_board_152, bd_f77 h]
/-- the lines -/
theorem bd_loop : ∀ (f : Nat) (Q : QT) (K : Tk) (I : Nat → Nat → Int32) (L : Nat → Nat → Int64), TkI n t K → QN Q → QB Q → QE Q → Q.1.1 + Q.1.2.1 + f = 21 → MS n t sd Q.1.1 Q.1.2.1 Q K I L →
    ∃ J L', FPM (1 - sd) I J ∧ FPM (1 - sd) L L' ∧ (match yMain n t f Q K with
      | .error e => EV ρ (d + 7) 34 77 [.ref 257, .int (nI (1 - sd)), .int (nI (Q.1.1 + Q.1.2.1))] [] (mk c R I L) = some ([.int (-2 - nI e)], mk c R J L')
      | .ok Q' => EV ρ (d + 7) 34 77 [.ref 257, .int (nI (1 - sd)), .int (nI (Q.1.1 + Q.1.2.1))] [] (mk c R I L) = EV ρ (d + 7) 34 186 [.ref 257, zU, .int (nI (Q'.1.1 + Q'.1.2.1))] [] (mk c R (z2 J 257 18 (nI (1 - sd))) L') ∧ RM Q'.1.1 Q'.1.2.1 Q' (1 - sd) J L') := by
  intro f
  induction f with
  | zero =>
    intro Q K I L hK hN hB hE hf h
    have := hN.1
    have := hN.2.1
    omega
  | succ f ih =>
    intro Q K I L hK hN hB hE hf h
    obtain ⟨a1, a2, a3, a4, a5, a6⟩ := id h
    have hn := a1.2.1
    have hk5 := hK.1
    unfold yMain
    by_cases c0 : K.1 = 0
    · simp only [if_pos c0]
      refine ⟨I, L, FPM_r, FPM_r, ?_, a6⟩
      rw [bM_board_77, a4, if_pos (by decide), a5.1, c0, if_pos (by decide), if_pos (by decide)]
    · simp only [if_neg c0]
      have h77 : EV ρ (d + 7) 34 77 [.ref 257, .int (nI (1 - sd)), .int (nI (Q.1.1 + Q.1.2.1))] [] (mk c R I L) = EV ρ (d + 7) 34 97 [.ref 257, .int (nI (1 - sd)), .int (nI (Q.1.1 + Q.1.2.1))] [.int (bo (kW 0 K))] (mk c R I L) := by
        rw [bM_board_77, a4, if_pos (by decide), a5.1, if_neg (nI_ne0 (by omega) (by omega)), M_isWord_e (d := d + 5) hK a4 a5 (i := 0) (by decide) rfl, zci]
      have hline : ∃ J1 L1, FPM (1 - sd) I J1 ∧ FPM (1 - sd) L L1 ∧ EV ρ (d + 7) 34 77 [.ref 257, .int (nI (1 - sd)), .int (nI (Q.1.1 + Q.1.2.1))] [] (mk c R I L) = EV ρ (d + 7) 34 128 [.ref 257, .int (nI (1 - sd)), .int (nI (Q.1.1 + Q.1.2.1))] [] (mk c R J1 L1) ∧ (match yLine n t Q K with
          | .error e => FSt e J1
          | .ok (Q', K') => MS n t sd Q'.1.1 Q'.1.2.1 Q' K' J1 L1) := by
        rw [h77, bM_board_97]
        unfold yLine
        by_cases c1 : kW 0 K = true
        · simp only [if_pos c1]
          obtain ⟨J1, L1, b1, b2, b3, b4⟩ := M_deviceLine_e (ρ := ρ) (d := d + 1) (c := c) (R := R) hK (kW_i.mp c1).1 hN hB hE h
          rw [c1, if_neg (by decide), b1, zcv, bM_board_104]
          exact ⟨J1, L1, b2, b3, rfl, b4⟩
        · simp only [if_neg c1]
          have c1' : kW 0 K = false := by rw [Bool.eq_false_iff]; exact c1
          rw [c1', if_pos (by decide), M_isWord_e (d := d + 5) hK a4 a5 (i := 1) (by decide) rfl, zci, bM_board_113]
          by_cases c2 : kW 1 K = true
          · simp only [if_pos c2]
            obtain ⟨J1, L1, b1, b2, b3, b4⟩ := M_driverLine_e (ρ := ρ) (d := d) (c := c) (R := R) hK (kW_i.mp c2).1 hN hB hE h
            rw [c2, if_neg (by decide), b1, zcv, bM_board_120]
            exact ⟨J1, L1, b2, b3, rfl, b4⟩
          · simp only [if_neg c2]
            have c2' : kW 1 K = false := by rw [Bool.eq_false_iff]; exact c2
            rw [c2', if_pos (by decide), M_wrong_e (d := d + 5) a4, zcv]
            exact ⟨_, _, FPM_w FPM_r, FPM_r, rfl, FSt_w hK hn a5 (by decide) (by decide)⟩
      obtain ⟨J1, L1, g1, g2, g3, g4⟩ := hline
      rw [g3]
      cases es : yLine n t Q K with
      | error y =>
        rw [es] at g4
        simp only
        exact ⟨J1, L1, g1, g2, bd_f128 g4 _ _⟩
      | ok y =>
        obtain ⟨Q1, K1⟩ := y
        rw [es] at g4
        simp only at g4 ⊢
        obtain ⟨y1, y2, y3, y4, y5⟩ := yLine_v hK es hN hB hE
        obtain ⟨x1, x2, x3, x4, x5, x6⟩ := id g4
        have k5 := y4.1
        by_cases c3 : K1.1 = 3
        · simp only [if_pos c3]
          rw [bM_board_128, x4, if_pos (by decide), x5.1, c3, if_pos rfl, bM_board_148]
          obtain ⟨J2, L2, b1, b2, b3, b4⟩ := MS_next (ρ := ρ) (d := d + 3) (c := c) (R := R) y4 g4 (by omega)
          obtain ⟨J3, L3, q1, q2, q3⟩ := ih Q1 (nxK n t K1) J2 L2 (nxK_i y4) y1 y2 y3 (by omega) b2
          rw [b1, zcv, bM_board_152, nI_add, ← y5]
          exact ⟨J3, L3, FPM_t (FPM_t g1 (FPM_7 b3)) q1, FPM_t (FPM_t g2 (FPM_7 b4)) q2, q3⟩
        · simp only [if_neg c3]
          have hF := FSt_w y4 hn x5 (y := 1) (by decide) (by decide)
          rw [bM_board_128, x4, if_pos (by decide), x5.1, if_neg (fun z => c3 ((nI_eq (by omega) (by omega)).mp z)), M_wrong_e (d := d + 5) x4, zcv, bM_board_148, M_next_f (d := d + 5) hF, zcv, bM_board_152, bd_f77 hF]
          exact ⟨_, _, FPM_w g1, g2, rfl⟩
/-- a row is filled -/
theorem bg_1 : ∀ (j k : Nat) (I : Nat → Nat → Int32), 443 - k = j → k ≤ 443 → ∃ s, EV ρ (d + 1) 5 2 [.ref 257, .int (nI k)] [] (mk c R I L) = EV ρ (d + 1) 5 24 [.ref 257, .int (nI 0)] [] (mk c R (va_up I 274 s) L) ∧ (∀ i, k ≤ i → i < 443 → s i = nI 0) ∧ ∀ i, i < k → s i = I 274 i := by
  intro j
  induction j with
  | zero =>
    intro k I hj hk
    rw [bM_begins_2, if_pos (nI_le (by omega) (by omega))]
    exact ⟨I 274, by rw [va_e], fun i h1 h2 => by omega, fun _ _ => rfl⟩
  | succ j ih =>
    intro k I hj hk
    rw [bM_begins_2, if_neg (nI_ge (by omega) (by omega)), zidx_n (by omega) (by decide), bM_begins_16, nI_add]
    obtain ⟨s, g1, g2, g3⟩ := ih (k + 1) (z2 I 274 k (nI 0)) (by omega) (by omega)
    refine ⟨s, ?_, fun i h1 h2 => ?_, fun i h1 => ?_⟩
    · rw [g1]; unfold z2; rw [bx_uu]
    · by_cases ei : i = k
      · rw [ei, g3 k (by omega), z2_at]
      · exact g2 i (by omega) h2
    · rw [g3 i (by omega), z2a, if_neg (by omega)]
theorem bg_2 : ∀ (j k : Nat) (I : Nat → Nat → Int32), 12 - k = j → k ≤ 12 → ∃ s, EV ρ (d + 1) 5 24 [.ref 257, .int (nI k)] [] (mk c R I L) = EV ρ (d + 1) 5 58 [.ref 257, .int (nI 0)] [] (mk c R (va_up I 274 s) L) ∧ (∀ i, k ≤ i → i < 12 → s (12 + i) = -1 ∧ s (36 + i) = -1) ∧ ∀ i, ¬ (12 + k ≤ i ∧ i < 24) → ¬ (36 + k ≤ i ∧ i < 48) → s i = I 274 i := by
  intro j
  induction j with
  | zero =>
    intro k I hj hk
    rw [bM_begins_24, if_pos (nI_le (by omega) (by omega))]
    exact ⟨I 274, by rw [va_e], fun i h1 h2 => by omega, fun _ _ _ => rfl⟩
  | succ j ih =>
    intro k I hj hk
    rw [bM_begins_24, if_neg (nI_ge (by omega) (by omega)), nI_add, zidx_n (by omega) (by decide), bM_begins_40, nI_add, zidx_n (by omega) (by decide), bM_begins_50, nI_add]
    obtain ⟨s, g1, g2, g3⟩ := ih (k + 1) (z2 (z2 I 274 (12 + k) (-1)) 274 (36 + k) (-1)) (by omega) (by omega)
    refine ⟨s, ?_, fun i h1 h2 => ?_, fun i h1 h2 => ?_⟩
    · rw [g1]; unfold z2; rw [bx_uu, bx_uu]
    · by_cases ei : i = k
      · rw [ei, g3 (12 + k) (by omega) (by omega), g3 (36 + k) (by omega) (by omega), z2_at, z2a, if_neg (by omega), z2_at]
        exact ⟨rfl, rfl⟩
      · exact g2 i (by omega) h2
    · rw [g3 i (by omega) (by omega), z2a, if_neg (by omega), z2a, if_neg (by omega)]
theorem bg_3 : ∀ (j k : Nat) (I : Nat → Nat → Int32), 16 - k = j → k ≤ 16 → ∃ s, EV ρ (d + 1) 5 58 [.ref 257, .int (nI k)] [] (mk c R I L) = EV ρ (d + 1) 5 83 [.ref 257, .int (nI 0)] [] (mk c R (va_up I 274 s) L) ∧ (∀ i, k ≤ i → i < 16 → s (264 + i) = -1) ∧ ∀ i, ¬ (264 + k ≤ i ∧ i < 280) → s i = I 274 i := by
  intro j
  induction j with
  | zero =>
    intro k I hj hk
    rw [bM_begins_58, if_pos (nI_le (by omega) (by omega))]
    exact ⟨I 274, by rw [va_e], fun i h1 h2 => by omega, fun _ _ => rfl⟩
  | succ j ih =>
    intro k I hj hk
    rw [bM_begins_58, if_neg (nI_ge (by omega) (by omega)), nI_add, zidx_n (by omega) (by decide), bM_begins_75, nI_add]
    obtain ⟨s, g1, g2, g3⟩ := ih (k + 1) (z2 I 274 (264 + k) (-1)) (by omega) (by omega)
    refine ⟨s, ?_, fun i h1 h2 => ?_, fun i h1 => ?_⟩
    · rw [g1]; unfold z2; rw [bx_uu]
    · by_cases ei : i = k
      · rw [ei, g3 (264 + k) (by omega), z2_at]
      · exact g2 i (by omega) h2
    · rw [g3 i (by omega), z2a, if_neg (by omega)]
theorem bg_4 : ∀ (j k : Nat) (I : Nat → Nat → Int32), 8 - k = j → k ≤ 8 → ∃ s, EV ρ (d + 1) 5 83 [.ref 257, .int (nI k)] [] (mk c R I L) = some ([], mk c R (va_up I 274 s) L) ∧ (∀ i, k ≤ i → i < 8 → s (280 + i) = -1) ∧ s 439 = nI 99 ∧ ∀ i, i ≠ 439 → ¬ (280 + k ≤ i ∧ i < 288) → s i = I 274 i := by
  intro j
  induction j with
  | zero =>
    intro k I hj hk
    rw [bM_begins_83, if_pos (nI_le (by omega) (by omega)), bM_begins_116]
    exact ⟨va_up (I 274) 439 (nI 99), rfl, fun i h1 h2 => by omega, va_up_self _ _ _, fun i h1 _ => va_up_ne _ _ h1⟩
  | succ j ih =>
    intro k I hj hk
    rw [bM_begins_83, if_neg (nI_ge (by omega) (by omega)), nI_add, zidx_n (by omega) (by decide), bM_begins_100, nI_add]
    obtain ⟨s, g1, g2, g3, g4⟩ := ih (k + 1) (z2 I 274 (280 + k) (-1)) (by omega) (by omega)
    refine ⟨s, ?_, fun i h1 h2 => ?_, g3, fun i h1 h2 => ?_⟩
    · rw [g1]; unfold z2; rw [bx_uu]
    · by_cases ei : i = k
      · rw [ei, g4 (280 + k) (by omega) (by omega), z2_at]
      · exact g2 i (by omega) h2
    · rw [g4 i h1 (by omega), z2a, if_neg (by omega)]
/-- it begins -/
theorem M_begins_e : ∃ s, EV ρ (d + 1) 5 0 [.ref 257, zU] [] (mk c R I L) = some ([], mk c R (va_up I 274 s) L) ∧ MR (tNew [] 0) s := by
  obtain ⟨s1, a1, a2, a3⟩ := bg_1 (ρ := ρ) (d := d) (c := c) (R := R) (L := L) 443 0 I rfl (by decide)
  obtain ⟨s2, b1, b2, b3⟩ := bg_2 (ρ := ρ) (d := d) (c := c) (R := R) (L := L) 12 0 (va_up I 274 s1) rfl (by decide)
  obtain ⟨s3, c1, c2, c3⟩ := bg_3 (ρ := ρ) (d := d) (c := c) (R := R) (L := L) 16 0 (va_up (va_up I 274 s1) 274 s2) rfl (by decide)
  obtain ⟨s4, d1, d2, d3, d4⟩ := bg_4 (ρ := ρ) (d := d) (c := c) (R := R) (L := L) 8 0 (va_up (va_up (va_up I 274 s1) 274 s2) 274 s3) rfl (by decide)
  rw [va_up_self] at b3 c3 d4
  have z : ∀ i, i < 443 → i ≠ 439 → ¬ (12 ≤ i ∧ i < 24) → ¬ (36 ≤ i ∧ i < 48) → ¬ (264 ≤ i ∧ i < 288) → s4 i = nI 0 := fun i h0 h1 h2 h3 h4 => by
    rw [d4 i h1 (by omega), c3 i (by omega), b3 i (by omega) (by omega), a2 i (by omega) h0]
  refine ⟨s4, by rw [bM_begins_0, a1, b1, c1, d1, bx_uu, bx_uu, bx_uu], ⟨fun x hx => ⟨z _ (by omega) (by omega) (by omega) (by omega) (by omega), ?_⟩, fun x hx => ⟨z _ (by omega) (by omega) (by omega) (by omega) (by omega), ?_, z _ (by omega) (by omega) (by omega) (by omega) (by omega), z _ (by omega) (by omega) (by omega) (by omega) (by omega), z _ (by omega) (by omega) (by omega) (by omega) (by omega)⟩, ⟨fun j hj => ?_, fun j hj => ?_, d3, z _ (by omega) (by omega) (by omega) (by omega) (by omega)⟩, ⟨z _ (by omega) (by omega) (by omega) (by omega) (by omega), by decide, fun i v hi => (by cases hi)⟩, ⟨z _ (by omega) (by omega) (by omega) (by omega) (by omega), by decide, fun i v hi => (by cases hi)⟩, ⟨z _ (by omega) (by omega) (by omega) (by omega) (by omega), fun _ => 0, fun x hx => (by cases hx), List.Pairwise.nil⟩, fun x hx => ⟨by show 0 ≤ 6; omega, z _ (by omega) (by omega) (by omega) (by omega) (by omega), fun i v hi => (by cases hi)⟩⟩⟩
  · rw [d4 _ (by omega) (by omega), c3 _ (by omega)]
    exact (b2 x (by omega) hx).1
  · rw [d4 _ (by omega) (by omega), c3 _ (by omega)]
    exact (b2 x (by omega) hx).2
  · rw [d4 _ (by omega) (by omega)]
    exact c2 j (by omega) hj
  · exact d2 j (by omega) hj
/-- the reference's tape between calls -/
def TM (n : Nat) (t : Nat → Nat) (I : Nat → Nat → Int32) : Prop := I 257 1 = nI n ∧ n ≤ 648 ∧ ∀ i, i < n → I 258 i = nI (t i) ∧ t i < 256
/-- what board answers -/
def pBrd (n : Nat) (t : Nat → Nat) : Int32 × Option QT := if n ≤ 600 then (match yBoard n t with
    | .error e => (-2 - nI e, none)
    | .ok Q => (nI (Q.1.1 + Q.1.2.1), some Q)) else (-1, none)
theorem bd_39 : ∀ (j k : Nat) (I : Nat → Nat → Int32), b ≤ 1 → 3 - k = j → k ≤ 3 → ∃ J, EV ρ (d + 7) 34 39 [.ref 257, .int (nI b), .int (nI k)] [] (mk c R I L) = EV ρ (d + 7) 34 66 [.ref 257, .int (nI b), zU] [] (mk c R (z2 J 257 28 (nI 0)) L) ∧ (∀ i, k ≤ i → i < 3 → J 259 (3 * b + i) = nI 0) ∧ ∀ q i, ¬ (q = 259 ∧ 3 * b + k ≤ i ∧ i < 3 * b + 3) → J q i = I q i := by
  intro j
  induction j with
  | zero =>
    intro k I hb hj hk
    rw [bM_board_39, if_pos (nI_le (by omega) (by omega))]
    exact ⟨I, rfl, fun i h1 h2 => by omega, fun _ _ _ => rfl⟩
  | succ j ih =>
    intro k I hb hj hk
    rw [bM_board_39, if_neg (nI_ge (by omega) (by omega)), pk_mul, nI_add, zidx_n (by omega) (by decide), bM_board_55, nI_add]
    obtain ⟨J, g1, g2, g3⟩ := ih (k + 1) (z2 I 259 (3 * b + k) (nI 0)) hb (by omega) (by omega)
    refine ⟨J, g1, fun i h1 h2 => ?_, fun q i h1 => ?_⟩
    · by_cases ei : i = k
      · rw [ei, g3 259 (3 * b + k) (by omega), z2_at]
      · exact g2 i (by omega) h2
    · rw [g3 q i (by omega), z2a, if_neg (by omega)]
theorem M_board_e (hT : TM n t I) (h18 : I 257 18 = nI sd) (hsd : sd ≤ 1) : ∃ J L', EV ρ (d + 7) 34 0 [.ref 257, zU, zU] [] (mk c R I L) = some ([.int (pBrd n t).1], mk c R J L') ∧ J 257 1 = nI 0 ∧ (match (pBrd n t).2 with
    | none => J 257 18 = nI sd ∧ (∀ q j, J q j = I q j ∨ (q = 257 ∧ (j = 1 ∨ j = 2 ∨ 21 ≤ j ∧ j ≤ 29)) ∨ (259 ≤ q ∧ q ≤ 273 ∧ wdt q * (1 - sd) ≤ j ∧ j < wdt q * (1 - sd) + wdt q)) ∧ FPM (1 - sd) L L'
    | some Q => J 257 18 = nI (1 - sd) ∧ RM Q.1.1 Q.1.2.1 Q (1 - sd) J L' ∧ MR (tNew [] 0) (J 274) ∧ (∀ q, q < 257 → J q = I q) ∧ (∀ q, q < 257 → L' q = L q)) := by
  obtain ⟨t1, t2, t3⟩ := hT
  rw [bM_board_0, bM_board_5, bM_board_13, bM_board_18]
  have e1 : z2 I 257 2 (nI 0) 257 1 = nI n := by rw [z2a, if_neg (by omega)]; exact t1
  rw [e1]
  have e21 : z2 (z2 (z2 I 257 2 (nI 0)) 257 21 (nI n)) 257 1 (nI 0) 257 21 = nI n := by rw [z2a, if_neg (by omega), z2_at]
  have e18 : z2 (z2 (z2 I 257 2 (nI 0)) 257 21 (nI n)) 257 1 (nI 0) 257 18 = nI sd := by rw [z2a, if_neg (by omega), z2a, if_neg (by omega), z2a, if_neg (by omega)]; exact h18
  have e01 : z2 (z2 (z2 I 257 2 (nI 0)) 257 21 (nI n)) 257 1 (nI 0) 257 1 = nI 0 := by rw [z2_at]
  have eo : ∀ q j, ¬ (q = 257 ∧ (j = 1 ∨ j = 2 ∨ j = 21)) → z2 (z2 (z2 I 257 2 (nI 0)) 257 21 (nI n)) 257 1 (nI 0) q j = I q j := fun q j h => by rw [z2a, if_neg (by omega), z2a, if_neg (by omega), z2a, if_neg (by omega)]
  rw [e21]
  generalize z2 (z2 (z2 I 257 2 (nI 0)) 257 21 (nI n)) 257 1 (nI 0) = I0 at e21 e18 e01 eo
  unfold pBrd
  by_cases c6 : n ≤ 600
  · simp only [if_pos c6]
    rw [if_pos (nI_le c6 (by decide)), e18, pk_sub (by omega)]
    obtain ⟨J1, g1, g2, g3⟩ := bd_39 (ρ := ρ) (d := d) (c := c) (R := R) (L := L) (b := 1 - sd) 3 0 I0 (by omega) rfl (by decide)
    rw [g1, bM_board_66, bM_board_71]
    have hT1 : TP n t (z2 (z2 J1 257 28 (nI 0)) 257 25 (nI 0)) := by
      refine ⟨?_, t2, fun i hi => ?_⟩
      · rw [z2a, if_neg (by omega), z2a, if_neg (by omega), g3 _ _ (by omega)]; exact e21
      · rw [z2_ne (by decide), z2_ne (by decide), g3 _ _ (by omega), eo _ _ (by omega)]; exact t3 i hi
    obtain ⟨J2, L2, b1, b2, b3, b4⟩ := M_next_e (ρ := ρ) (d := d + 3) (c := c) (R := R) (L := L) hT1 (e := 0) (Nat.zero_le _) (by rw [z2_at]) (by rw [z2a, if_neg (by omega), z2_at])
    rw [b1, zcv]
    have hI2 : FPM (1 - sd) I0 J2 := by
      refine FPM_t (FPM_f (FPM_f (fun q j => ?_) (by decide) (by decide)) (by decide) (by decide)) (FPM_7 b3)
      by_cases h : q = 259 ∧ 3 * (1 - sd) ≤ j ∧ j < 3 * (1 - sd) + 3
      · exact .inr (.inr ⟨by omega, by omega, by rw [h.1]; exact h.2.1, by rw [h.1]; exact h.2.2⟩)
      · exact .inl (g3 q j (by omega))
    have hM : MS n t sd Q0.1.1 Q0.1.2.1 Q0 (tok n t 0) J2 L2 := by
      have f1 : ∀ i, i < 3 → J2 259 (3 * (1 - sd) + i) = nI 0 := fun i hi => by
        rw [FS7_c b3 (by decide), z2_ne (by decide), z2_ne (by decide)]
        exact g2 i (by omega) hi
      refine ⟨TP_to hT1 b3, ?_, hsd, ?_, b2, ⟨⟨f1 0 (by decide), f1 1 (by decide), f1 2 (by decide)⟩, ⟨fun x hx => absurd hx (Nat.not_lt_zero _), fun x hx => absurd hx (Nat.not_lt_zero _), fun x hx => absurd hx (Nat.not_lt_zero _)⟩, fun x hx => absurd hx (Nat.not_lt_zero _), fun x hx => absurd hx (Nat.not_lt_zero _), fun x hx => absurd hx (Nat.not_lt_zero _), fun x hx => absurd hx (Nat.not_lt_zero _), fun x hx => absurd hx (Nat.not_lt_zero _)⟩⟩
      · rw [FPM_o hI2 (by omega) (by omega)]; exact e18
      · rw [b3 _ _ (by omega), z2a, if_neg (by omega), z2_at]
    obtain ⟨J3, L3, q1, q2, q3⟩ := bd_loop (ρ := ρ) (d := d) (c := c) (R := R) 21 Q0 (tok n t 0) J2 L2 (tok_i n t (Nat.zero_le _)) Q0_v.1 Q0_v.2.1 Q0_v.2.2 rfl hM
    have hI3 := FPM_t hI2 q1
    have hL3 : FPM (1 - sd) L L3 := FPM_t (FPM_7 b4) q2
    change (match yBoard n t with
      | .error e => _
      | .ok Q' => _) at q3
    cases ey : yBoard n t with
    | error y =>
      rw [ey] at q3
      simp only at q3 ⊢
      refine ⟨J3, L3, q3, ?_, ?_, fun q j => ?_, hL3⟩
      · rw [FPM_o hI3 (by omega) (by omega)]; exact e01
      · rw [FPM_o hI3 (by omega) (by omega)]; exact e18
      · by_cases h : q = 257 ∧ (j = 1 ∨ j = 2 ∨ 21 ≤ j ∧ j ≤ 29)
        · exact .inr (.inl h)
        · rcases hI3 q j with g | g | g
          · exact .inl (g.trans (eo q j (by omega)))
          · exact absurd ⟨g.1, .inr (.inr ⟨by omega, g.2.2⟩)⟩ h
          · exact .inr (.inr g)
    | ok Q =>
      rw [ey] at q3
      simp only at q3 ⊢
      obtain ⟨s, m1, m2⟩ := M_begins_e (ρ := ρ) (d := d + 5) (c := c) (R := R) (L := L3) (I := z2 J3 257 18 (nI (1 - sd)))
      have h77 : EV ρ (d + 7) 34 77 [.ref 257, .int (nI (1 - sd)), .int (nI 0)] [] (mk c R J2 L2) = _ := q3.1
      rw [h77, bM_board_186, m1, zcv, bM_board_190]
      refine ⟨_, L3, rfl, ?_, ?_, RM_to q3.2 (fun q h1 h2 => ?_) (fun _ _ _ => rfl), by rw [va_up_self]; exact m2, fun q hq => ?_, fun q hq => ?_⟩
      · rw [va_up_ne _ _ (by decide), z2a, if_neg (by omega), FPM_o hI3 (by omega) (by omega)]; exact e01
      · rw [va_up_ne _ _ (by decide), z2_at]
      · rw [va_up_ne _ _ (by omega), z2_ne (by omega)]
      · funext j
        rw [va_up_ne _ _ (by omega), z2_ne (by omega), FPM_o hI3 (by omega) (by omega), eo _ _ (by omega)]
      · funext j
        exact FPM_o hL3 (by omega) (by omega)
  · simp only [if_neg c6]
    rw [if_neg (nI_ge (by omega) (by omega))]
    exact ⟨I0, L, rfl, e01, e18, fun q j => by
      by_cases h : q = 257 ∧ (j = 1 ∨ j = 2 ∨ j = 21)
      · exact .inr (.inl ⟨h.1, by omega⟩)
      · exact .inl (eo q j h), FPM_r⟩
end MBOARD
