-- THE LAW'S LOOP: each call answers alike on both sides
/-- the reference's side -/
def MSd (Q : QT) (sd n : Nat) (t : Nat → Nat) (T : TT) (I : Nat → Nat → Int32) (L : Nat → Nat → Int64) : Prop := MX (plQ Q) sd T I ∧ RM Q.1.1 Q.1.2.1 Q sd I L ∧ TM n t I
/-- the component's side -/
def CSd (Q : QT) (p n : Nat) (t : Nat → Nat) (T : TT) (R : Nat → Nat → Option Nat) (I : Nat → Nat → Int32) (L : Nat → Nat → Int64) : Prop := BX (plQ Q) p T R I ∧ R 0 9 = some (58 - p) ∧ NMc Q p I L ∧ TC n t I ∧ WK (plQ Q) T I
/-- both sides hold board Q and state T -/
def WS (n : Nat) (t : Nat → Nat) (Q : QT) (T : TT) (sd p : Nat) (R : Nat → Nat → Option Nat) (I : Nat → Nat → Int32) (L : Nat → Nat → Int64) : Prop := QN Q ∧ QB Q ∧ NS (plQ Q) T ∧ MSd Q sd n t T I L ∧ CSd Q p n t T R I L
section LAW
variable {ρ : Nat × (Nat → Int32)} {d : Nat} {c : Nat × Nat} {R S : Nat → Nat → Option Nat} {I J : Nat → Nat → Int32} {L L' : Nat → Nat → Int64} {n sd p i : Nat} {t : Nat → Nat} {Q : QT} {T U : TT}
theorem MSd_to (h : MSd Q sd n t T I L) (h1 : ∀ q, 257 ≤ q → J q = I q) (h2 : ∀ q, 259 ≤ q → q ≤ 273 → L' q = L q) : MSd Q sd n t T J L' := by
  obtain ⟨⟨a1, a2, a3⟩, a4, a5⟩ := h
  refine ⟨⟨a1, PM_to a2 (fun q hq => h1 q ?_) (by rw [h1 257 (by decide)]), by rw [h1 274 (by decide)]; exact a3⟩, RM_to a4 (fun q g1 g2 => h1 q (by omega)) h2, ?_⟩
  · have : ∀ q, q ∈ bdM → 257 ≤ q := by decide
    exact this q hq
  · unfold TM at a5 ⊢
    rw [h1 257 (by decide), h1 258 (by decide)]
    exact a5
theorem CSd_to (h : CSd Q p n t T R I L) (h1 : ∀ q, q < 257 → J q = I q) (h2 : ∀ q, q < 257 → L' q = L q) : CSd Q p n t T R J L' := by
  obtain ⟨a1, a2, ⟨a3, a4⟩, a5, a6⟩ := h
  have hpg := isP_g a1.2.1.2.2.2.1.1
  refine ⟨BX_fr a1 (fun q hq => h1 q (by omega)) rfl rfl rfl, a2, ⟨?_, ?_⟩, TC_to a5 (h1 1 (by decide)) (h1 2 (by decide)), ?_⟩
  · unfold RCn at a3 ⊢
    rw [h2 (p + 1) (by omega), h2 (p + 2) (by omega), h2 (p + 3) (by omega)]
    exact a3
  · rw [h1 (p + 9) (by omega)]; exact a4
  · unfold WK at a6 ⊢
    rw [h1 0 (by decide), h1 256 (by decide)]
    exact a6
theorem FT_c (h : FT I J) {q : Nat} (hq : q ≠ 257) (h2 : ¬ (274 ≤ q ∧ q ≤ 279)) : J q = I q := by
  funext j
  exact h q j (by omega)
theorem MSd_M (h : MSd Q sd n t T I L) (hX : MX (plQ Q) sd U J) (hF : FT I J) : MSd Q sd n t U J L := by
  obtain ⟨a1, a4, a5⟩ := h
  refine ⟨hX, RM_to a4 (fun q g1 g2 => FT_c hF (by omega) (by omega)) (fun _ _ _ => rfl), ?_⟩
  refine ⟨?_, a5.2.1, fun i hi => ?_⟩
  · rw [hF 257 1 (by omega)]; exact a5.1
  · rw [FT_c hF (by omega) (by omega)]; exact a5.2.2 i hi
theorem CSd_M (h : CSd Q p n t T R I L) (hF : FT I J) : CSd Q p n t T R J L := CSd_to h (fun q hq => FT_c hF (by omega) (by omega)) (fun _ _ => rfl)
theorem MSd_B (h : MSd Q sd n t T I L) (hF : FW I J) : MSd Q sd n t T J L := MSd_to h (fun q hq => by funext j; exact hF q j (by omega) (by omega) (by omega) (by omega)) (fun _ _ _ => rfl)
theorem CSd_B (h : CSd Q p n t T R I L) (hO : BO (plQ Q) p T U R I J) : CSd Q p n t U R J L := by
  obtain ⟨a1, a2, ⟨a3, a4⟩, a5, a6⟩ := h
  have hpg := isP_g a1.2.1.2.2.2.1.1
  obtain ⟨b1, b2, b3⟩ := hO
  refine ⟨b1, a2, ⟨a3, fun v hv => ?_⟩, TC_to a5 (by funext j; exact b2 _ _ (by omega) (by omega) (by omega) (by omega)) (by funext j; exact b2 _ _ (by omega) (by omega) (by omega) (by omega)), ?_⟩
  · rw [b2 _ _ (by omega) (by omega) (by omega) (by omega)]; exact a4 v hv
  · rcases b3 with e | ⟨e1, e2⟩
    · exact .inl e
    · rw [e1, e2]; exact a6
theorem MSd_q (h : MSd Q sd n t T I L) (hF : FQ I J) : MSd Q sd n t T J L := MSd_to h (fun q hq => hF q (by omega)) (fun _ _ _ => rfl)
theorem CSd_q (h : CSd Q p n t T R I L) (hS : RQ R S) (hF : FQ I J) : CSd Q p n t T S J L := by
  obtain ⟨a1, a2, ⟨a3, a4⟩, a5, a6⟩ := h
  have hpg := isP_g a1.2.1.2.2.2.1.1
  refine ⟨BX_q a1 hF hS, (hS 0 9 (by omega)).trans a2, ⟨a3, fun v hv => ?_⟩, TC_to a5 (hF 1 (by omega)) (hF 2 (by omega)), ?_⟩
  · rw [hF _ (by omega)]; exact a4 v hv
  · unfold WK at a6 ⊢
    rw [hF 0 (by omega), hF 256 (by omega)]
    exact a6
theorem MSd_2 {v : Int32} (h : MSd Q sd n t T I L) : MSd Q sd n t T (z2 I 257 2 v) L := MSd_M h (MX_z2 h.1 (by decide)) (fun q j hq => by rw [z2a, if_neg (by omega)])
theorem CSd_2 {v : Int32} (h : CSd Q p n t T R I L) : CSd Q p n t T R (z2 I 257 2 v) L := CSd_to h (fun q hq => z2_ne (by omega)) (fun _ _ => rfl)
/-- the other side's rows may change -/
theorem RM_fr {m u : Nat} (hm : m ≤ 12) (hu : u ≤ 8) (hB : QB Q) (hN : QN Q) (hs : sd ≤ 1) (h : RM m u Q sd I L) (h1 : ∀ q j, J q j = I q j ∨ (q = 257 ∧ (j = 1 ∨ j = 2 ∨ 21 ≤ j ∧ j ≤ 29)) ∨ (259 ≤ q ∧ q ≤ 273 ∧ wdt q * (1 - sd) ≤ j ∧ j < wdt q * (1 - sd) + wdt q)) (h2 : FPM (1 - sd) L L') : RM m u Q sd J L' := by
  have g12 := hN.1
  have g8 := hN.2.1
  have gs := hN.2.2.1
  have hI : ∀ q j, 259 ≤ q → q ≤ 273 → (j < wdt q * sd + wdt q ∧ wdt q * sd ≤ j) → J q j = I q j := fun q j y1 y2 y3 => by
    rcases h1 q j with e | e | e
    · exact e
    · omega
    · exfalso
      have hs2 : sd = 0 ∨ sd = 1 := by omega
      rcases hs2 with rfl | rfl
      · simp only [Nat.sub_zero, Nat.mul_one, Nat.mul_zero, Nat.zero_add] at e y3; omega
      · simp only [Nat.sub_self, Nat.mul_one, Nat.mul_zero, Nat.zero_add] at e y3; omega
  have hL : ∀ q j, 259 ≤ q → q ≤ 273 → (j < wdt q * sd + wdt q ∧ wdt q * sd ≤ j) → L' q j = L q j := fun q j y1 y2 y3 => by
    rcases h2 q j with e | e | e
    · exact e
    · omega
    · exfalso
      have hs2 : sd = 0 ∨ sd = 1 := by omega
      rcases hs2 with rfl | rfl
      · simp only [Nat.sub_zero, Nat.mul_one, Nat.mul_zero, Nat.zero_add] at e y3; omega
      · simp only [Nat.sub_self, Nat.mul_one, Nat.mul_zero, Nat.zero_add] at e y3; omega
  obtain ⟨⟨r1, r2, r3⟩, ⟨s1, s2, s3⟩, h3, h4, h5, h6, h7⟩ := h
  refine ⟨⟨?_, ?_, ?_⟩, ⟨fun x hx => ?_, fun x hx => ?_, fun x hx => ?_⟩, fun x hx => ⟨?_, fun k z hz => ?_⟩, fun x hx => ?_, fun x hx => ⟨?_, fun k z hz => ?_⟩, fun v hv => ⟨?_, fun a w hw => ⟨?_, fun k z hz => ?_⟩⟩, fun v hv => ⟨?_, fun k z hz => ⟨?_, ?_⟩⟩⟩
  · rw [hI 259 _ (by decide) (by decide) (by show _ < 3 * sd + 3 ∧ 3 * sd ≤ _; omega)]; exact r1
  · rw [hI 259 _ (by decide) (by decide) (by show _ < 3 * sd + 3 ∧ 3 * sd ≤ _; omega)]; exact r2
  · rw [hI 259 _ (by decide) (by decide) (by show _ < 3 * sd + 3 ∧ 3 * sd ≤ _; omega)]; exact r3
  · rw [hL 260 _ (by decide) (by decide) (by show _ < 12 * sd + 12 ∧ 12 * sd ≤ _; omega)]; exact s1 x hx
  · rw [hL 266 _ (by decide) (by decide) (by show _ < 8 * sd + 8 ∧ 8 * sd ≤ _; omega)]; exact s2 x hx
  · rw [hL 273 _ (by decide) (by decide) (by show _ < 8 * sd + 8 ∧ 8 * sd ≤ _; omega)]; exact s3 x hx
  · rw [hI 262 _ (by decide) (by decide) (by show _ < 12 * sd + 12 ∧ 12 * sd ≤ _; omega)]; exact (h3 x hx).1
  · have hk := (List.getElem?_eq_some_iff.mp hz).1
    have := (hB.2.2.2.2 x).1
    rw [hI 261 _ (by decide) (by decide) (by show _ < 96 * sd + 96 ∧ 96 * sd ≤ _; omega)]; exact (h3 x hx).2 k z hz
  · rw [hI 263 _ (by decide) (by decide) (by show _ < 12 * sd + 12 ∧ 12 * sd ≤ _; omega)]; exact h4 x hx
  · rw [hI 264 _ (by decide) (by decide) (by show _ < 12 * sd + 12 ∧ 12 * sd ≤ _; omega)]; exact (h5 x hx).1
  · have hk := (List.getElem?_eq_some_iff.mp hz).1
    have := (hB.2.1 x).1
    rw [hI 265 _ (by decide) (by decide) (by show _ < 36 * sd + 36 ∧ 36 * sd ≤ _; omega)]; exact (h5 x hx).2 k z hz
  · rw [hI 267 _ (by decide) (by decide) (by show _ < 8 * sd + 8 ∧ 8 * sd ≤ _; omega)]; exact (h6 v hv).1
  · have hk := (List.getElem?_eq_some_iff.mp hw).1
    have := (hB.2.2.2.1 v).1
    rw [hI 269 _ (by decide) (by decide) (by show _ < 24 * sd + 24 ∧ 24 * sd ≤ _; omega)]; exact ((h6 v hv).2 a w hw).1
  · have hk := (List.getElem?_eq_some_iff.mp hw).1
    have hk2 := (List.getElem?_eq_some_iff.mp hz).1
    have := (hB.2.2.2.1 v).1
    have := ((hB.2.2.2.1 v).2 w (List.mem_of_getElem? hw)).1
    rw [hI 268 _ (by decide) (by decide) (by show _ < 192 * sd + 192 ∧ 192 * sd ≤ _; omega)]; exact ((h6 v hv).2 a w hw).2 k z hz
  · rw [hI 270 _ (by decide) (by decide) (by show _ < 8 * sd + 8 ∧ 8 * sd ≤ _; omega)]; exact (h7 v hv).1
  · have hk := (List.getElem?_eq_some_iff.mp hz).1
    have := (hB.2.2.1 v).1
    rw [hI 271 _ (by decide) (by decide) (by show _ < 48 * sd + 48 ∧ 48 * sd ≤ _; omega)]; exact ((h7 v hv).2 k z hz).1
  · have hk := (List.getElem?_eq_some_iff.mp hz).1
    have := (hB.2.2.1 v).1
    rw [hI 272 _ (by decide) (by decide) (by show _ < 48 * sd + 48 ∧ 48 * sd ≤ _; omega)]; exact ((h7 v hv).2 k z hz).2
/-- one round of the loop -/
def LNx (ρ : Nat × (Nat → Int32)) (d i : Nat) (c : Nat × Nat) (R : Nat → Nat → Option Nat) (I : Nat → Nat → Int32) (L : Nat → Nat → Int64) (T : TT) : Prop := ∃ (c' : Nat × Nat) (R' : Nat → Nat → Option Nat) (J : Nat → Nat → Int32) (L' : Nat → Nat → Int64) (n' : Nat) (t' : Nat → Nat) (Q' : QT) (T' : TT) (sd' p' : Nat), EV ρ (d + 31) 235 23 [.ref 2000, .ref 0, .ref 257, .ref 280, .int (nI i), zU, zU] [] (mk c R I L) = EV ρ (d + 31) 235 23 [.ref 2000, .ref 0, .ref 257, .ref 280, .int (nI (i + 7)), zU, zU] [] (mk c' R' J L') ∧ WS n' t' Q' T' sd' p' R' J L' ∧ T'.2.2.2.2 ≤ T.2.2.2.2 + 12 ∧ c'.1 ≤ c.1 + 1 ∧ c'.2 ≤ c.2 + 6
theorem lw_3 (hi : i + 7 ≤ ρ.1) (hl : ρ.1 < 2 ^ 20) (hr : ¬ nI ρ.1 - nI 7 < nI i) (hk : ρ.2 i &&& nI 31 = nI 3) (hc : T.2.2.2.2 + 36 < 2 ^ 30) (h : WS n t Q T sd p R I L) : LNx ρ d i c R I L T := by
  obtain ⟨hN, hB, hS, hM, hC⟩ := h
  have hV := plQ_v hN hB
  have hI := hC.1.2.2.1
  have e1 : nI i + nI 1 = nI (i + 1) := nI_add _ _
  have e7 : nI i + nI 7 = nI (i + 7) := nI_add _ _
  obtain ⟨J1, b1, b2⟩ := B_add_e (ρ := ρ) (d := d) (c := c) (L := L) hC.1 (by omega) (ρ.2 (i + 1))
  have hM1 := MSd_B hM b2.2.1
  obtain ⟨J2, m1, m2, m3⟩ := M_add_e (ρ := ρ) (d := d) (c := c) (R := R) (L := L) hM1.1 hI (by omega) (ρ.2 (i + 1))
  refine ⟨c, R, J2, L, n, t, Q, (pAdd (plQ Q) T (ρ.2 (i + 1))).2, sd, p, ?_, ⟨hN, hB, pAdd_ns hV hI hS _, MSd_M hM1 m2 m3, CSd_M (CSd_B hC b2) m3⟩, pAdd_cn hV hI _ b2.1.2.2.1, Nat.le_add_right _ _, Nat.le_add_right _ _⟩
  rw [bLaw_law_23, if_neg hr, zidx_n (show i < ρ.1 by omega) (by omega), hk, if_neg (by decide), if_neg (by decide), if_neg (by decide), if_pos rfl, e1, zidx_n (show i + 1 < ρ.1 by omega) (by omega), b1, zci, bLaw_law_351, e1, zidx_n (show i + 1 < ρ.1 by omega) (by omega), m1, zci, bLaw_law_361, if_pos rfl, bLaw_law_1054, e7]
theorem lw_4 (hi : i + 7 ≤ ρ.1) (hl : ρ.1 < 2 ^ 20) (hr : ¬ nI ρ.1 - nI 7 < nI i) (hk : ρ.2 i &&& nI 31 = nI 4) (hc : T.2.2.2.2 + 36 < 2 ^ 30) (h : WS n t Q T sd p R I L) : LNx ρ d i c R I L T := by
  obtain ⟨hN, hB, hS, hM, hC⟩ := h
  have hV := plQ_v hN hB
  have hI := hC.1.2.2.1
  have e1 : nI i + nI 1 = nI (i + 1) := nI_add _ _
  have e7 : nI i + nI 7 = nI (i + 7) := nI_add _ _
  obtain ⟨J1, b1, b2⟩ := B_remove_e (ρ := ρ) (d := d) (c := c) (L := L) hC.1 (by omega) (ρ.2 (i + 1))
  have hM1 := MSd_B hM b2.2.1
  obtain ⟨J2, m1, m2, m3⟩ := M_remove_e (ρ := ρ) (d := d) (c := c) (R := R) (L := L) hM1.1 hI (by omega) (ρ.2 (i + 1))
  refine ⟨c, R, J2, L, n, t, Q, (pRemv (plQ Q) T (ρ.2 (i + 1))).2, sd, p, ?_, ⟨hN, hB, pRemv_ns hS _, MSd_M hM1 m2 m3, CSd_M (CSd_B hC b2) m3⟩, pRemv_cn hV hI _, Nat.le_add_right _ _, Nat.le_add_right _ _⟩
  rw [bLaw_law_23, if_neg hr, zidx_n (show i < ρ.1 by omega) (by omega), hk, if_neg (by decide), if_neg (by decide), if_neg (by decide), if_neg (by decide), if_pos rfl, e1, zidx_n (show i + 1 < ρ.1 by omega) (by omega), b1, zci, bLaw_law_376, e1, zidx_n (show i + 1 < ρ.1 by omega) (by omega), m1, zci, bLaw_law_386, if_pos rfl, bLaw_law_1054, e7]
theorem lw_5 (hi : i + 7 ≤ ρ.1) (hl : ρ.1 < 2 ^ 20) (hr : ¬ nI ρ.1 - nI 7 < nI i) (hk : ρ.2 i &&& nI 31 = nI 5) (hc : T.2.2.2.2 + 36 < 2 ^ 30) (h : WS n t Q T sd p R I L) : LNx ρ d i c R I L T := by
  obtain ⟨hN, hB, hS, hM, hC⟩ := h
  have hV := plQ_v hN hB
  have hI := hC.1.2.2.1
  have e1 : nI i + nI 1 = nI (i + 1) := nI_add _ _
  have e7 : nI i + nI 7 = nI (i + 7) := nI_add _ _
  obtain ⟨J1, b1, b2⟩ := B_load_e (ρ := ρ) (d := d) (c := c) (L := L) hC.1 (by omega) (ρ.2 (i + 1))
  have hM1 := MSd_B hM b2.2.1
  obtain ⟨J2, m1, m2, m3⟩ := M_load_e (ρ := ρ) (d := d) (c := c) (R := R) (L := L) hM1.1 hI (by omega) (ρ.2 (i + 1))
  refine ⟨c, R, J2, L, n, t, Q, (pLoad (plQ Q) T (ρ.2 (i + 1))).2, sd, p, ?_, ⟨hN, hB, pLoad_ns hV hI hS _, MSd_M hM1 m2 m3, CSd_M (CSd_B hC b2) m3⟩, pLoad_cn hV hI _, Nat.le_add_right _ _, Nat.le_add_right _ _⟩
  rw [bLaw_law_23, if_neg hr, zidx_n (show i < ρ.1 by omega) (by omega), hk, if_neg (by decide), if_neg (by decide), if_neg (by decide), if_neg (by decide), if_neg (by decide), if_pos rfl, e1, zidx_n (show i + 1 < ρ.1 by omega) (by omega), b1, zci, bLaw_law_401, e1, zidx_n (show i + 1 < ρ.1 by omega) (by omega), m1, zci, bLaw_law_411, if_pos rfl, bLaw_law_1054, e7]
theorem lw_6 (hi : i + 7 ≤ ρ.1) (hl : ρ.1 < 2 ^ 20) (hr : ¬ nI ρ.1 - nI 7 < nI i) (hk : ρ.2 i &&& nI 31 = nI 6) (hc : T.2.2.2.2 + 36 < 2 ^ 30) (h : WS n t Q T sd p R I L) : LNx ρ d i c R I L T := by
  obtain ⟨hN, hB, hS, hM, hC⟩ := h
  have hV := plQ_v hN hB
  have hI := hC.1.2.2.1
  have e1 : nI i + nI 1 = nI (i + 1) := nI_add _ _
  have e7 : nI i + nI 7 = nI (i + 7) := nI_add _ _
  obtain ⟨J1, b1, b2⟩ := B_unload_e (ρ := ρ) (d := d) (c := c) (L := L) hC.1 (by omega) (ρ.2 (i + 1))
  have hM1 := MSd_B hM b2.2.1
  obtain ⟨J2, m1, m2, m3⟩ := M_unload_e (ρ := ρ) (d := d) (c := c) (R := R) (L := L) hM1.1 hI (by omega) (ρ.2 (i + 1))
  refine ⟨c, R, J2, L, n, t, Q, (pUnl (plQ Q) T (ρ.2 (i + 1))).2, sd, p, ?_, ⟨hN, hB, pUnl_ns hS _, MSd_M hM1 m2 m3, CSd_M (CSd_B hC b2) m3⟩, pUnl_cn hV hI _, Nat.le_add_right _ _, Nat.le_add_right _ _⟩
  rw [bLaw_law_23, if_neg hr, zidx_n (show i < ρ.1 by omega) (by omega), hk, if_neg (by decide), if_neg (by decide), if_neg (by decide), if_neg (by decide), if_neg (by decide), if_neg (by decide), if_pos rfl, e1, zidx_n (show i + 1 < ρ.1 by omega) (by omega), b1, zci, bLaw_law_426, e1, zidx_n (show i + 1 < ρ.1 by omega) (by omega), m1, zci, bLaw_law_436, if_pos rfl, bLaw_law_1054, e7]
theorem lw_7 (hi : i + 7 ≤ ρ.1) (hl : ρ.1 < 2 ^ 20) (hr : ¬ nI ρ.1 - nI 7 < nI i) (hk : ρ.2 i &&& nI 31 = nI 7) (hc : T.2.2.2.2 + 36 < 2 ^ 30) (h : WS n t Q T sd p R I L) : LNx ρ d i c R I L T := by
  obtain ⟨hN, hB, hS, hM, hC⟩ := h
  have hV := plQ_v hN hB
  have hI := hC.1.2.2.1
  have e1 : nI i + nI 1 = nI (i + 1) := nI_add _ _
  have e7 : nI i + nI 7 = nI (i + 7) := nI_add _ _
  obtain ⟨J1, b1, b2⟩ := B_unbind_e (ρ := ρ) (d := d) (c := c) (L := L) hC.1 (by omega) (ρ.2 (i + 1))
  have hM1 := MSd_B hM b2.2.1
  obtain ⟨J2, m1, m2, m3⟩ := M_unbind_e (ρ := ρ) (d := d) (c := c) (R := R) (L := L) hM1.1 hI (by omega) (ρ.2 (i + 1))
  refine ⟨c, R, J2, L, n, t, Q, (pUnb (plQ Q) T (ρ.2 (i + 1))).2, sd, p, ?_, ⟨hN, hB, pUnb_ns hS _, MSd_M hM1 m2 m3, CSd_M (CSd_B hC b2) m3⟩, pUnb_cn hV hI _, Nat.le_add_right _ _, Nat.le_add_right _ _⟩
  rw [bLaw_law_23, if_neg hr, zidx_n (show i < ρ.1 by omega) (by omega), hk, if_neg (by decide), if_neg (by decide), if_neg (by decide), if_neg (by decide), if_neg (by decide), if_neg (by decide), if_neg (by decide), if_pos rfl, e1, zidx_n (show i + 1 < ρ.1 by omega) (by omega), b1, zci, bLaw_law_451, e1, zidx_n (show i + 1 < ρ.1 by omega) (by omega), m1, zci, bLaw_law_461, if_pos rfl, bLaw_law_1054, e7]
theorem lw_8 (hi : i + 7 ≤ ρ.1) (hl : ρ.1 < 2 ^ 20) (hr : ¬ nI ρ.1 - nI 7 < nI i) (hk : ρ.2 i &&& nI 31 = nI 8) (hc : T.2.2.2.2 + 36 < 2 ^ 30) (h : WS n t Q T sd p R I L) : LNx ρ d i c R I L T := by
  obtain ⟨hN, hB, hS, hM, hC⟩ := h
  have hV := plQ_v hN hB
  have hI := hC.1.2.2.1
  have e1 : nI i + nI 1 = nI (i + 1) := nI_add _ _
  have e2 : nI i + nI 2 = nI (i + 2) := nI_add _ _
  have e7 : nI i + nI 7 = nI (i + 7) := nI_add _ _
  obtain ⟨J1, b1, b2⟩ := B_bind_e (ρ := ρ) (d := d) (c := c) (L := L) hC.1 (by omega) (ρ.2 (i + 1)) (ρ.2 (i + 2))
  have hM1 := MSd_B hM b2.2.1
  obtain ⟨J2, m1, m2, m3⟩ := M_bind_e (ρ := ρ) (d := d) (c := c) (R := R) (L := L) hM1.1 hI (by omega) (ρ.2 (i + 1)) (ρ.2 (i + 2))
  refine ⟨c, R, J2, L, n, t, Q, (pBind (plQ Q) T (ρ.2 (i + 1)) (ρ.2 (i + 2))).2, sd, p, ?_, ⟨hN, hB, pBind_ns hV hI hS _ _, MSd_M hM1 m2 m3, CSd_M (CSd_B hC b2) m3⟩, pBind_cn hV hI _ _, Nat.le_add_right _ _, Nat.le_add_right _ _⟩
  rw [bLaw_law_23, if_neg hr, zidx_n (show i < ρ.1 by omega) (by omega), hk, if_neg (by decide), if_neg (by decide), if_neg (by decide), if_neg (by decide), if_neg (by decide), if_neg (by decide), if_neg (by decide), if_neg (by decide), if_pos rfl, e1, zidx_n (show i + 1 < ρ.1 by omega) (by omega), e2, zidx_n (show i + 2 < ρ.1 by omega) (by omega), b1, zci, bLaw_law_482, e1, zidx_n (show i + 1 < ρ.1 by omega) (by omega), e2, zidx_n (show i + 2 < ρ.1 by omega) (by omega), m1, zci, bLaw_law_498, if_pos rfl, bLaw_law_1054, e7]
theorem lw_9 (hi : i + 7 ≤ ρ.1) (hl : ρ.1 < 2 ^ 20) (hr : ¬ nI ρ.1 - nI 7 < nI i) (hk : ρ.2 i &&& nI 31 = nI 9) (hc : T.2.2.2.2 + 36 < 2 ^ 30) (h : WS n t Q T sd p R I L) : LNx ρ d i c R I L T := by
  obtain ⟨hN, hB, hS, hM, hC⟩ := h
  have hV := plQ_v hN hB
  have hI := hC.1.2.2.1
  have e7 : nI i + nI 7 = nI (i + 7) := nI_add _ _
  obtain ⟨J1, b1, b2⟩ := B_rescan_e (ρ := ρ) (d := d) (c := c) (L := L) hC.1 (by omega) 
  have hM1 := MSd_B hM b2.2.1
  obtain ⟨J2, m1, m2, m3⟩ := M_rescan_e (ρ := ρ) (d := d) (c := c) (R := R) (L := L) hM1.1 hI (by omega) 
  refine ⟨c, R, J2, L, n, t, Q, (pResc (plQ Q) T ).2, sd, p, ?_, ⟨hN, hB, pResc_ns hV hI hS, MSd_M hM1 m2 m3, CSd_M (CSd_B hC b2) m3⟩, pResc_cn hV hI, Nat.le_add_right _ _, Nat.le_add_right _ _⟩
  rw [bLaw_law_23, if_neg hr, zidx_n (show i < ρ.1 by omega) (by omega), hk, if_neg (by decide), if_neg (by decide), if_neg (by decide), if_neg (by decide), if_neg (by decide), if_neg (by decide), if_neg (by decide), if_neg (by decide), if_neg (by decide), if_pos rfl, b1, zci, bLaw_law_507, m1, zci, bLaw_law_511, if_pos rfl, bLaw_law_1054, e7]
theorem lw_10 (hi : i + 7 ≤ ρ.1) (hl : ρ.1 < 2 ^ 20) (hr : ¬ nI ρ.1 - nI 7 < nI i) (hk : ρ.2 i &&& nI 31 = nI 10) (hc : T.2.2.2.2 + 36 < 2 ^ 30) (h : WS n t Q T sd p R I L) : LNx ρ d i c R I L T := by
  obtain ⟨hN, hB, hS, hM, hC⟩ := h
  have hV := plQ_v hN hB
  have hI := hC.1.2.2.1
  have e1 : nI i + nI 1 = nI (i + 1) := nI_add _ _
  have e7 : nI i + nI 7 = nI (i + 7) := nI_add _ _
  obtain ⟨J1, b1, b2⟩ := B_forget_e (ρ := ρ) (d := d) (c := c) (L := L) hC.1 (ρ.2 (i + 1))
  have hM1 := MSd_B hM b2.2.1
  obtain ⟨J2, m1, m2, m3⟩ := M_forget_e (ρ := ρ) (d := d) (c := c) (R := R) (L := L) hM1.1 hI (ρ.2 (i + 1))
  refine ⟨c, R, J2, L, n, t, Q, (pForg (plQ Q) T (ρ.2 (i + 1))).2, sd, p, ?_, ⟨hN, hB, pForg_ns hS _, MSd_M hM1 m2 m3, CSd_M (CSd_B hC b2) m3⟩, pForg_cn _, Nat.le_add_right _ _, Nat.le_add_right _ _⟩
  rw [bLaw_law_23, if_neg hr, zidx_n (show i < ρ.1 by omega) (by omega), hk, if_neg (by decide), if_neg (by decide), if_neg (by decide), if_neg (by decide), if_neg (by decide), if_neg (by decide), if_neg (by decide), if_neg (by decide), if_neg (by decide), if_neg (by decide), if_pos rfl, e1, zidx_n (show i + 1 < ρ.1 by omega) (by omega), b1, zci, bLaw_law_526, e1, zidx_n (show i + 1 < ρ.1 by omega) (by omega), m1, zci, bLaw_law_536, if_pos rfl, bLaw_law_1054, e7]
theorem lw_11 (hi : i + 7 ≤ ρ.1) (hl : ρ.1 < 2 ^ 20) (hr : ¬ nI ρ.1 - nI 7 < nI i) (hk : ρ.2 i &&& nI 31 = nI 11) (hc : T.2.2.2.2 + 36 < 2 ^ 30) (h : WS n t Q T sd p R I L) : LNx ρ d i c R I L T := by
  obtain ⟨hN, hB, hS, hM, hC⟩ := h
  have hV := plQ_v hN hB
  have hI := hC.1.2.2.1
  have e1 : nI i + nI 1 = nI (i + 1) := nI_add _ _
  have e2 : nI i + nI 2 = nI (i + 2) := nI_add _ _
  have e7 : nI i + nI 7 = nI (i + 7) := nI_add _ _
  refine ⟨c, R, z2 I 257 2 (nI 0), L, n, t, Q, T, sd, p, ?_, ⟨hN, hB, hS, MSd_2 hM, CSd_2 hC⟩, Nat.le_add_right _ _, Nat.le_add_right _ _, Nat.le_add_right _ _⟩
  rw [bLaw_law_23, if_neg hr, zidx_n (show i < ρ.1 by omega) (by omega), hk, if_neg (by decide), if_neg (by decide), if_neg (by decide), if_neg (by decide), if_neg (by decide), if_neg (by decide), if_neg (by decide), if_neg (by decide), if_neg (by decide), if_neg (by decide), if_neg (by decide), if_pos rfl, e1, zidx_n (show i + 1 < ρ.1 by omega) (by omega), e2, zidx_n (show i + 2 < ρ.1 by omega) (by omega), B_device_e hC.1, zci, bLaw_law_557, e1, zidx_n (show i + 1 < ρ.1 by omega) (by omega), e2, zidx_n (show i + 2 < ρ.1 by omega) (by omega), M_device_e hM.1 hI, zci, bLaw_law_573, if_pos rfl, bLaw_law_1054, e7]
theorem lw_13 (hi : i + 7 ≤ ρ.1) (hl : ρ.1 < 2 ^ 20) (hr : ¬ nI ρ.1 - nI 7 < nI i) (hk : ρ.2 i &&& nI 31 = nI 13) (hc : T.2.2.2.2 + 36 < 2 ^ 30) (h : WS n t Q T sd p R I L) : LNx ρ d i c R I L T := by
  obtain ⟨hN, hB, hS, hM, hC⟩ := h
  have hV := plQ_v hN hB
  have hI := hC.1.2.2.1
  have e1 : nI i + nI 1 = nI (i + 1) := nI_add _ _
  have e2 : nI i + nI 2 = nI (i + 2) := nI_add _ _
  have e7 : nI i + nI 7 = nI (i + 7) := nI_add _ _
  refine ⟨c, R, z2 I 257 2 (nI 0), L, n, t, Q, T, sd, p, ?_, ⟨hN, hB, hS, MSd_2 hM, CSd_2 hC⟩, Nat.le_add_right _ _, Nat.le_add_right _ _, Nat.le_add_right _ _⟩
  rw [bLaw_law_23, if_neg hr, zidx_n (show i < ρ.1 by omega) (by omega), hk, if_neg (by decide), if_neg (by decide), if_neg (by decide), if_neg (by decide), if_neg (by decide), if_neg (by decide), if_neg (by decide), if_neg (by decide), if_neg (by decide), if_neg (by decide), if_neg (by decide), if_neg (by decide), if_neg (by decide), if_pos rfl, e1, zidx_n (show i + 1 < ρ.1 by omega) (by omega), e2, zidx_n (show i + 2 < ρ.1 by omega) (by omega), B_driver_e hC.1 (np := fun v => (Q.2.2.2.2.2.2.2.1 v).length) hC.2.2.1.2, zci, bLaw_law_631, e1, zidx_n (show i + 1 < ρ.1 by omega) (by omega), e2, zidx_n (show i + 2 < ρ.1 by omega) (by omega), M_driver_e hM.1 hI (np := fun v => (Q.2.2.2.2.2.2.2.1 v).length) (fun v hv => (hM.2.1.2.2.2.2.2.1 v hv).1), zci, bLaw_law_647, if_pos rfl, bLaw_law_1054, e7]
theorem lw_14 (hi : i + 7 ≤ ρ.1) (hl : ρ.1 < 2 ^ 20) (hr : ¬ nI ρ.1 - nI 7 < nI i) (hk : ρ.2 i &&& nI 31 = nI 14) (hc : T.2.2.2.2 + 36 < 2 ^ 30) (h : WS n t Q T sd p R I L) : LNx ρ d i c R I L T := by
  obtain ⟨hN, hB, hS, hM, hC⟩ := h
  have hV := plQ_v hN hB
  have hI := hC.1.2.2.1
  have e1 : nI i + nI 1 = nI (i + 1) := nI_add _ _
  have e2 : nI i + nI 2 = nI (i + 2) := nI_add _ _
  have e7 : nI i + nI 7 = nI (i + 7) := nI_add _ _
  refine ⟨c, R, z2 I 257 2 (nI 0), L, n, t, Q, T, sd, p, ?_, ⟨hN, hB, hS, MSd_2 hM, CSd_2 hC⟩, Nat.le_add_right _ _, Nat.le_add_right _ _, Nat.le_add_right _ _⟩
  rw [bLaw_law_23, if_neg hr, zidx_n (show i < ρ.1 by omega) (by omega), hk, if_neg (by decide), if_neg (by decide), if_neg (by decide), if_neg (by decide), if_neg (by decide), if_neg (by decide), if_neg (by decide), if_neg (by decide), if_neg (by decide), if_neg (by decide), if_neg (by decide), if_neg (by decide), if_neg (by decide), if_neg (by decide), if_pos rfl, e1, zidx_n (show i + 1 < ρ.1 by omega) (by omega), e2, zidx_n (show i + 2 < ρ.1 by omega) (by omega), B_score_e hC.1, zci, bLaw_law_668, e1, zidx_n (show i + 1 < ρ.1 by omega) (by omega), e2, zidx_n (show i + 2 < ρ.1 by omega) (by omega), M_score_e hM.1, zci, bLaw_law_684, if_pos rfl, bLaw_law_1054, e7]
theorem lw_15 (hi : i + 7 ≤ ρ.1) (hl : ρ.1 < 2 ^ 20) (hr : ¬ nI ρ.1 - nI 7 < nI i) (hk : ρ.2 i &&& nI 31 = nI 15) (hc : T.2.2.2.2 + 36 < 2 ^ 30) (h : WS n t Q T sd p R I L) : LNx ρ d i c R I L T := by
  obtain ⟨hN, hB, hS, hM, hC⟩ := h
  have hV := plQ_v hN hB
  have hI := hC.1.2.2.1
  have e1 : nI i + nI 1 = nI (i + 1) := nI_add _ _
  have e2 : nI i + nI 2 = nI (i + 2) := nI_add _ _
  have e7 : nI i + nI 7 = nI (i + 7) := nI_add _ _
  refine ⟨c, R, z2 I 257 2 (nI 0), L, n, t, Q, T, sd, p, ?_, ⟨hN, hB, hS, MSd_2 hM, CSd_2 hC⟩, Nat.le_add_right _ _, Nat.le_add_right _ _, Nat.le_add_right _ _⟩
  rw [bLaw_law_23, if_neg hr, zidx_n (show i < ρ.1 by omega) (by omega), hk, if_neg (by decide), if_neg (by decide), if_neg (by decide), if_neg (by decide), if_neg (by decide), if_neg (by decide), if_neg (by decide), if_neg (by decide), if_neg (by decide), if_neg (by decide), if_neg (by decide), if_neg (by decide), if_neg (by decide), if_neg (by decide), if_neg (by decide), if_pos rfl, e1, zidx_n (show i + 1 < ρ.1 by omega) (by omega), e2, zidx_n (show i + 2 < ρ.1 by omega) (by omega), B_line_e hC.1, zci, bLaw_law_705, e1, zidx_n (show i + 1 < ρ.1 by omega) (by omega), e2, zidx_n (show i + 2 < ρ.1 by omega) (by omega), M_line_e hM.1, zci, bLaw_law_721, if_pos rfl, bLaw_law_1054, e7]
theorem lw_20 (hi : i + 7 ≤ ρ.1) (hl : ρ.1 < 2 ^ 20) (hr : ¬ nI ρ.1 - nI 7 < nI i) (hk : ρ.2 i &&& nI 31 = nI 20) (hc : T.2.2.2.2 + 36 < 2 ^ 30) (h : WS n t Q T sd p R I L) : LNx ρ d i c R I L T := by
  obtain ⟨hN, hB, hS, hM, hC⟩ := h
  have hV := plQ_v hN hB
  have hI := hC.1.2.2.1
  have e1 : nI i + nI 1 = nI (i + 1) := nI_add _ _
  have e2 : nI i + nI 2 = nI (i + 2) := nI_add _ _
  have e7 : nI i + nI 7 = nI (i + 7) := nI_add _ _
  refine ⟨c, R, z2 I 257 2 (nI 0), L, n, t, Q, T, sd, p, ?_, ⟨hN, hB, hS, MSd_2 hM, CSd_2 hC⟩, Nat.le_add_right _ _, Nat.le_add_right _ _, Nat.le_add_right _ _⟩
  rw [bLaw_law_23, if_neg hr, zidx_n (show i < ρ.1 by omega) (by omega), hk, if_neg (by decide), if_neg (by decide), if_neg (by decide), if_neg (by decide), if_neg (by decide), if_neg (by decide), if_neg (by decide), if_neg (by decide), if_neg (by decide), if_neg (by decide), if_neg (by decide), if_neg (by decide), if_neg (by decide), if_neg (by decide), if_neg (by decide), if_neg (by decide), if_neg (by decide), if_neg (by decide), if_neg (by decide), if_neg (by decide), if_pos rfl, e1, zidx_n (show i + 1 < ρ.1 by omega) (by omega), e2, zidx_n (show i + 2 < ρ.1 by omega) (by omega), B_supply_e hC.1, zci, bLaw_law_890, e1, zidx_n (show i + 1 < ρ.1 by omega) (by omega), e2, zidx_n (show i + 2 < ρ.1 by omega) (by omega), M_supply_e hM.1, zci, bLaw_law_906, if_pos rfl, bLaw_law_1054, e7]
theorem lw_21 (hi : i + 7 ≤ ρ.1) (hl : ρ.1 < 2 ^ 20) (hr : ¬ nI ρ.1 - nI 7 < nI i) (hk : ρ.2 i &&& nI 31 = nI 21) (hc : T.2.2.2.2 + 36 < 2 ^ 30) (h : WS n t Q T sd p R I L) : LNx ρ d i c R I L T := by
  obtain ⟨hN, hB, hS, hM, hC⟩ := h
  have hV := plQ_v hN hB
  have hI := hC.1.2.2.1
  have e1 : nI i + nI 1 = nI (i + 1) := nI_add _ _
  have e7 : nI i + nI 7 = nI (i + 7) := nI_add _ _
  refine ⟨c, R, z2 I 257 2 (nI 0), L, n, t, Q, T, sd, p, ?_, ⟨hN, hB, hS, MSd_2 hM, CSd_2 hC⟩, Nat.le_add_right _ _, Nat.le_add_right _ _, Nat.le_add_right _ _⟩
  rw [bLaw_law_23, if_neg hr, zidx_n (show i < ρ.1 by omega) (by omega), hk, if_neg (by decide), if_neg (by decide), if_neg (by decide), if_neg (by decide), if_neg (by decide), if_neg (by decide), if_neg (by decide), if_neg (by decide), if_neg (by decide), if_neg (by decide), if_neg (by decide), if_neg (by decide), if_neg (by decide), if_neg (by decide), if_neg (by decide), if_neg (by decide), if_neg (by decide), if_neg (by decide), if_neg (by decide), if_neg (by decide), if_neg (by decide), if_pos rfl, e1, zidx_n (show i + 1 < ρ.1 by omega) (by omega), B_taken_e hC.1, zci, bLaw_law_921, e1, zidx_n (show i + 1 < ρ.1 by omega) (by omega), M_taken_e hM.1, zci, bLaw_law_931, if_pos rfl, bLaw_law_1054, e7]
theorem lw_12 (hi : i + 7 ≤ ρ.1) (hl : ρ.1 < 2 ^ 20) (hr : ¬ nI ρ.1 - nI 7 < nI i) (hk : ρ.2 i &&& nI 31 = nI 12) (hc : T.2.2.2.2 + 36 < 2 ^ 30) (h : WS n t Q T sd p R I L) : LNx ρ d i c R I L T := by
  obtain ⟨hN, hB, hS, hM, hC⟩ := h
  have hV := plQ_v hN hB
  have hI := hC.1.2.2.1
  have e1 : nI i + nI 1 = nI (i + 1) := nI_add _ _
  have e2 : nI i + nI 2 = nI (i + 2) := nI_add _ _
  have e7 : nI i + nI 7 = nI (i + 7) := nI_add _ _
  obtain ⟨S, J1, b1, b2, b3⟩ := B_links_e (ρ := ρ) (d := d) (c := c) (L := L) hC.1 (ρ.2 (i + 1)) (ρ.2 (i + 2))
  have hM1 := MSd_q hM b3
  obtain ⟨J2, m1, m2, m3⟩ := M_links_e (ρ := ρ) (d := d) (c := c) (R := S) (L := L) hM1.1 hI (by omega) (ρ.2 (i + 1)) (ρ.2 (i + 2))
  refine ⟨c, S, J2, L, n, t, Q, T, sd, p, ?_, ⟨hN, hB, hS, MSd_M hM1 m2 m3, CSd_M (CSd_q hC b2 b3) m3⟩, Nat.le_add_right _ _, Nat.le_add_right _ _, Nat.le_add_right _ _⟩
  rw [bLaw_law_23, if_neg hr, zidx_n (show i < ρ.1 by omega) (by omega), hk, if_neg (by decide), if_neg (by decide), if_neg (by decide), if_neg (by decide), if_neg (by decide), if_neg (by decide), if_neg (by decide), if_neg (by decide), if_neg (by decide), if_neg (by decide), if_neg (by decide), if_neg (by decide), if_pos rfl, e1, zidx_n (show i + 1 < ρ.1 by omega) (by omega), e2, zidx_n (show i + 2 < ρ.1 by omega) (by omega), b1, zci, bLaw_law_594, e1, zidx_n (show i + 1 < ρ.1 by omega) (by omega), e2, zidx_n (show i + 2 < ρ.1 by omega) (by omega), m1, zci, bLaw_law_610, if_pos rfl, bLaw_law_1054, e7]
theorem lw_16 (hi : i + 7 ≤ ρ.1) (hl : ρ.1 < 2 ^ 20) (hr : ¬ nI ρ.1 - nI 7 < nI i) (hk : ρ.2 i &&& nI 31 = nI 16) (hc : T.2.2.2.2 + 36 < 2 ^ 30) (h : WS n t Q T sd p R I L) : LNx ρ d i c R I L T := by
  obtain ⟨hN, hB, hS, hM, hC⟩ := h
  have hV := plQ_v hN hB
  have hI := hC.1.2.2.1
  have e1 : nI i + nI 1 = nI (i + 1) := nI_add _ _
  have e2 : nI i + nI 2 = nI (i + 2) := nI_add _ _
  have e7 : nI i + nI 7 = nI (i + 7) := nI_add _ _
  obtain ⟨S, J1, b1, b2, b3⟩ := B_would_e (ρ := ρ) (d := d) (c := c) (L := L) hC.1 (by omega) (ρ.2 (i + 1)) (ρ.2 (i + 2))
  have hM1 := MSd_q hM b3
  obtain ⟨J2, m1, m2, m3⟩ := M_would_e (ρ := ρ) (d := d) (c := c) (R := S) (L := L) hM1.1 hI (by omega) (ρ.2 (i + 1)) (ρ.2 (i + 2))
  refine ⟨c, S, J2, L, n, t, Q, T, sd, p, ?_, ⟨hN, hB, hS, MSd_M hM1 m2 m3, CSd_M (CSd_q hC b2 b3) m3⟩, Nat.le_add_right _ _, Nat.le_add_right _ _, Nat.le_add_right _ _⟩
  rw [bLaw_law_23, if_neg hr, zidx_n (show i < ρ.1 by omega) (by omega), hk, if_neg (by decide), if_neg (by decide), if_neg (by decide), if_neg (by decide), if_neg (by decide), if_neg (by decide), if_neg (by decide), if_neg (by decide), if_neg (by decide), if_neg (by decide), if_neg (by decide), if_neg (by decide), if_neg (by decide), if_neg (by decide), if_neg (by decide), if_neg (by decide), if_pos rfl, e1, zidx_n (show i + 1 < ρ.1 by omega) (by omega), e2, zidx_n (show i + 2 < ρ.1 by omega) (by omega), b1, zci, bLaw_law_742, e1, zidx_n (show i + 1 < ρ.1 by omega) (by omega), e2, zidx_n (show i + 2 < ρ.1 by omega) (by omega), m1, zci, bLaw_law_758, if_pos rfl, bLaw_law_1054, e7]
theorem lw_17 (hi : i + 7 ≤ ρ.1) (hl : ρ.1 < 2 ^ 20) (hr : ¬ nI ρ.1 - nI 7 < nI i) (hk : ρ.2 i &&& nI 31 = nI 17) (hc : T.2.2.2.2 + 36 < 2 ^ 30) (h : WS n t Q T sd p R I L) : LNx ρ d i c R I L T := by
  obtain ⟨hN, hB, hS, hM, hC⟩ := h
  have hV := plQ_v hN hB
  have hI := hC.1.2.2.1
  have e1 : nI i + nI 1 = nI (i + 1) := nI_add _ _
  have e2 : nI i + nI 2 = nI (i + 2) := nI_add _ _
  have e7 : nI i + nI 7 = nI (i + 7) := nI_add _ _
  obtain ⟨S, J1, b1, b2, b3⟩ := B_order_e (ρ := ρ) (d := d) (c := c) (L := L) hC.1 (ρ.2 (i + 1)) (ρ.2 (i + 2))
  have hM1 := MSd_q hM b3
  obtain ⟨J2, m1, m2, m3⟩ := M_order_e (ρ := ρ) (d := d) (c := c) (R := S) (L := L) hM1.1 hI (by omega) (ρ.2 (i + 1)) (ρ.2 (i + 2))
  refine ⟨c, S, J2, L, n, t, Q, T, sd, p, ?_, ⟨hN, hB, hS, MSd_M hM1 m2 m3, CSd_M (CSd_q hC b2 b3) m3⟩, Nat.le_add_right _ _, Nat.le_add_right _ _, Nat.le_add_right _ _⟩
  rw [bLaw_law_23, if_neg hr, zidx_n (show i < ρ.1 by omega) (by omega), hk, if_neg (by decide), if_neg (by decide), if_neg (by decide), if_neg (by decide), if_neg (by decide), if_neg (by decide), if_neg (by decide), if_neg (by decide), if_neg (by decide), if_neg (by decide), if_neg (by decide), if_neg (by decide), if_neg (by decide), if_neg (by decide), if_neg (by decide), if_neg (by decide), if_neg (by decide), if_pos rfl, e1, zidx_n (show i + 1 < ρ.1 by omega) (by omega), e2, zidx_n (show i + 2 < ρ.1 by omega) (by omega), b1, zci, bLaw_law_779, e1, zidx_n (show i + 1 < ρ.1 by omega) (by omega), e2, zidx_n (show i + 2 < ρ.1 by omega) (by omega), m1, zci, bLaw_law_795, if_pos rfl, bLaw_law_1054, e7]
theorem lw_18 (hi : i + 7 ≤ ρ.1) (hl : ρ.1 < 2 ^ 20) (hr : ¬ nI ρ.1 - nI 7 < nI i) (hk : ρ.2 i &&& nI 31 = nI 18) (hc : T.2.2.2.2 + 36 < 2 ^ 30) (h : WS n t Q T sd p R I L) : LNx ρ d i c R I L T := by
  obtain ⟨hN, hB, hS, hM, hC⟩ := h
  have hV := plQ_v hN hB
  have hI := hC.1.2.2.1
  have e1 : nI i + nI 1 = nI (i + 1) := nI_add _ _
  have e2 : nI i + nI 2 = nI (i + 2) := nI_add _ _
  have e7 : nI i + nI 7 = nI (i + 7) := nI_add _ _
  obtain ⟨S, J1, b1, b2, b3⟩ := B_ring_e (ρ := ρ) (d := d) (c := c) (L := L) hC.1 (ρ.2 (i + 1)) (ρ.2 (i + 2))
  have hM1 := MSd_q hM b3
  obtain ⟨J2, m1, m2, m3⟩ := M_ring_e (ρ := ρ) (d := d) (c := c) (R := S) (L := L) hM1.1 hI (ρ.2 (i + 1)) (ρ.2 (i + 2))
  refine ⟨c, S, J2, L, n, t, Q, T, sd, p, ?_, ⟨hN, hB, hS, MSd_M hM1 m2 m3, CSd_M (CSd_q hC b2 b3) m3⟩, Nat.le_add_right _ _, Nat.le_add_right _ _, Nat.le_add_right _ _⟩
  rw [bLaw_law_23, if_neg hr, zidx_n (show i < ρ.1 by omega) (by omega), hk, if_neg (by decide), if_neg (by decide), if_neg (by decide), if_neg (by decide), if_neg (by decide), if_neg (by decide), if_neg (by decide), if_neg (by decide), if_neg (by decide), if_neg (by decide), if_neg (by decide), if_neg (by decide), if_neg (by decide), if_neg (by decide), if_neg (by decide), if_neg (by decide), if_neg (by decide), if_neg (by decide), if_pos rfl, e1, zidx_n (show i + 1 < ρ.1 by omega) (by omega), e2, zidx_n (show i + 2 < ρ.1 by omega) (by omega), b1, zci, bLaw_law_816, e1, zidx_n (show i + 1 < ρ.1 by omega) (by omega), e2, zidx_n (show i + 2 < ρ.1 by omega) (by omega), m1, zci, bLaw_law_832, if_pos rfl, bLaw_law_1054, e7]
theorem lw_19 (hi : i + 7 ≤ ρ.1) (hl : ρ.1 < 2 ^ 20) (hr : ¬ nI ρ.1 - nI 7 < nI i) (hk : ρ.2 i &&& nI 31 = nI 19) (hc : T.2.2.2.2 + 36 < 2 ^ 30) (h : WS n t Q T sd p R I L) : LNx ρ d i c R I L T := by
  obtain ⟨hN, hB, hS, hM, hC⟩ := h
  have hV := plQ_v hN hB
  have hI := hC.1.2.2.1
  have e1 : nI i + nI 1 = nI (i + 1) := nI_add _ _
  have e2 : nI i + nI 2 = nI (i + 2) := nI_add _ _
  have e7 : nI i + nI 7 = nI (i + 7) := nI_add _ _
  obtain ⟨S, J1, b1, b2, b3, b4, b5, b6⟩ := B_wanted_e (ρ := ρ) (d := d) (c := c) (L := L) hC.1 hC.2.2.2.2 hc (ρ.2 (i + 1)) (ρ.2 (i + 2))
  have hM1 : MSd Q sd n t T J1 L := MSd_to hM (fun q hq => b5 q (by omega) (by omega)) (fun _ _ _ => rfl)
  obtain ⟨J2, m1, m2, m3⟩ := M_wanted_e (ρ := ρ) (d := d) (c := c) (R := S) (L := L) hM1.1 hI hc (ρ.2 (i + 1)) (ρ.2 (i + 2))
  have hpg := isP_g hC.1.2.1.2.2.2.1.1
  have hC1 : CSd Q p n t T S J1 L := ⟨b3, (b2 0 9 (by omega)).trans hC.2.1, ⟨hC.2.2.1.1, fun v hv => by rw [b5 _ (by omega) (by omega)]; exact hC.2.2.1.2 v hv⟩, TC_to hC.2.2.2.1 (b5 1 (by omega) (by omega)) (b5 2 (by omega) (by omega)), b4⟩
  refine ⟨c, S, J2, L, n, t, Q, T, sd, p, ?_, ⟨hN, hB, hS, MSd_M hM1 m2 m3, CSd_M hC1 m3⟩, Nat.le_add_right _ _, Nat.le_add_right _ _, Nat.le_add_right _ _⟩
  rw [bLaw_law_23, if_neg hr, zidx_n (show i < ρ.1 by omega) (by omega), hk, if_neg (by decide), if_neg (by decide), if_neg (by decide), if_neg (by decide), if_neg (by decide), if_neg (by decide), if_neg (by decide), if_neg (by decide), if_neg (by decide), if_neg (by decide), if_neg (by decide), if_neg (by decide), if_neg (by decide), if_neg (by decide), if_neg (by decide), if_neg (by decide), if_neg (by decide), if_neg (by decide), if_neg (by decide), if_pos rfl, e1, zidx_n (show i + 1 < ρ.1 by omega) (by omega), e2, zidx_n (show i + 2 < ρ.1 by omega) (by omega), b1, zci, bLaw_law_853, e1, zidx_n (show i + 1 < ρ.1 by omega) (by omega), e2, zidx_n (show i + 2 < ρ.1 by omega) (by omega), m1, zci, bLaw_law_869, if_pos rfl, bLaw_law_1054, e7]
theorem lw_0 (hi : i + 7 ≤ ρ.1) (hl : ρ.1 < 2 ^ 20) (hr : ¬ nI ρ.1 - nI 7 < nI i) (hk : ρ.2 i &&& nI 31 = nI 0) (hc : T.2.2.2.2 + 36 < 2 ^ 30) (h : WS n t Q T sd p R I L) : LNx ρ d i c R I L T := by
  obtain ⟨hN, hB, hS, hM, hC⟩ := h
  have hV := plQ_v hN hB
  have hI := hC.1.2.2.1
  have e1 : nI i + nI 1 = nI (i + 1) := nI_add _ _
  have e2 : nI i + nI 2 = nI (i + 2) := nI_add _ _
  have e3 : nI i + nI 3 = nI (i + 3) := nI_add _ _
  have e4 : nI i + nI 4 = nI (i + 4) := nI_add _ _
  have e5 : nI i + nI 5 = nI (i + 5) := nI_add _ _
  have e6 : nI i + nI 6 = nI (i + 6) := nI_add _ _
  have e7 : nI i + nI 7 = nI (i + 7) := nI_add _ _
  obtain ⟨J1, b1, b2, b3⟩ := B_feed_e (ρ := ρ) (d := d) (c := c) (R := R) (L := L) (u := ((((ρ.2 (i + 1)).toInt64) <<< ((nI 32).toInt64 &&& 63)) ||| (((ρ.2 (i + 2)).toInt64) &&& (lN 4294967295)))) (v := ((((ρ.2 (i + 3)).toInt64) <<< ((nI 32).toInt64 &&& 63)) ||| (((ρ.2 (i + 4)).toInt64) &&& (lN 4294967295)))) (w := ((((ρ.2 (i + 5)).toInt64) <<< ((nI 32).toInt64 &&& 63)) ||| (((ρ.2 (i + 6)).toInt64) &&& (lN 4294967295)))) hC.2.2.2.1
  have hM1 : MSd Q sd n t T J1 L := MSd_to hM (fun q hq => by funext j; exact b3 q j (by omega) (by omega)) (fun _ _ _ => rfl)
  obtain ⟨J2, m1, m2, m3⟩ := M_feed_e (ρ := ρ) (d := d) (c := c) (R := R) (L := L) (u := ((((ρ.2 (i + 1)).toInt64) <<< ((nI 32).toInt64 &&& 63)) ||| (((ρ.2 (i + 2)).toInt64) &&& (lN 4294967295)))) (v := ((((ρ.2 (i + 3)).toInt64) <<< ((nI 32).toInt64 &&& 63)) ||| (((ρ.2 (i + 4)).toInt64) &&& (lN 4294967295)))) (w := ((((ρ.2 (i + 5)).toInt64) <<< ((nI 32).toInt64 &&& 63)) ||| (((ρ.2 (i + 6)).toInt64) &&& (lN 4294967295)))) hM1.2.2
  have hpg := isP_g hC.1.2.1.2.2.2.1.1
  have hJ1 : ∀ q, q ≠ 1 → q ≠ 2 → J1 q = I q := fun q y1 y2 => by funext j; exact b3 q j (by omega) y2
  have hJ2 : ∀ q, q ≠ 257 → q ≠ 258 → J2 q = J1 q := fun q y1 y2 => by funext j; exact m3 q j (by omega) y2
  refine ⟨c, R, J2, L, _, _, Q, T, sd, p, ?_, ⟨hN, hB, hS, ⟨⟨hM1.1.1, PM_to hM1.1.2.1 (fun q hq => ?_) (m3 _ _ (by omega) (by omega)), by rw [hJ2 274 (by decide) (by decide)]; exact hM1.1.2.2⟩, RM_to hM1.2.1 (fun q g1 g2 => hJ2 q (by omega) (by omega)) (fun _ _ _ => rfl), m2⟩, CSd_to (J := J2) (I := J1) (L := L) ⟨BX_fr hC.1 (fun q hq => hJ1 q (by omega) (by omega)) rfl rfl rfl, hC.2.1, ⟨hC.2.2.1.1, fun v hv => by rw [hJ1 _ (by omega) (by omega)]; exact hC.2.2.1.2 v hv⟩, b2, ?_⟩ (fun q hq => hJ2 q (by omega) (by omega)) (fun _ _ => rfl)⟩, Nat.le_add_right _ _, Nat.le_add_right _ _, Nat.le_add_right _ _⟩
  · rw [bLaw_law_23, if_neg hr, zidx_n (show i < ρ.1 by omega) (by omega), hk, if_pos rfl, e1, zidx_n (show i + 1 < ρ.1 by omega) (by omega), e2, zidx_n (show i + 2 < ρ.1 by omega) (by omega), e3, zidx_n (show i + 3 < ρ.1 by omega) (by omega), e4, zidx_n (show i + 4 < ρ.1 by omega) (by omega), e5, zidx_n (show i + 5 < ρ.1 by omega) (by omega), e6, zidx_n (show i + 6 < ρ.1 by omega) (by omega), b1, zci, bLaw_law_227, e1, zidx_n (show i + 1 < ρ.1 by omega) (by omega), e2, zidx_n (show i + 2 < ρ.1 by omega) (by omega), e3, zidx_n (show i + 3 < ρ.1 by omega) (by omega), e4, zidx_n (show i + 4 < ρ.1 by omega) (by omega), e5, zidx_n (show i + 5 < ρ.1 by omega) (by omega), e6, zidx_n (show i + 6 < ρ.1 by omega) (by omega), m1, zci, bLaw_law_298, if_pos rfl, bLaw_law_1054, e7]
  · have : ∀ q, q ∈ bdM → q ≠ 257 ∧ q ≠ 258 := by decide
    exact hJ2 q (this q hq).1 (this q hq).2
  · have hW := hC.2.2.2.2
    unfold WK at hW ⊢
    rw [hJ1 0 (by decide) (by decide), hJ1 256 (by decide) (by decide)]
    exact hW
theorem lw_1 (hi : i + 7 ≤ ρ.1) (hl : ρ.1 < 2 ^ 20) (hr : ¬ nI ρ.1 - nI 7 < nI i) (hk : ρ.2 i &&& nI 31 = nI 1) (hc : T.2.2.2.2 + 36 < 2 ^ 30) (h : WS n t Q T sd p R I L) : LNx ρ d i c R I L T := by
  obtain ⟨hN, hB, hS, hM, hC⟩ := h
  have hV := plQ_v hN hB
  have hI := hC.1.2.2.1
  have e1 : nI i + nI 1 = nI (i + 1) := nI_add _ _
  have e7 : nI i + nI 7 = nI (i + 7) := nI_add _ _
  have hn := hC.2.2.2.1.2.1
  have hle := pEnd_le (n := n) (by omega) (ρ.2 (i + 1))
  obtain ⟨J1, b1, b2, b3⟩ := B_end_e (ρ := ρ) (d := d) (c := c) (R := R) (L := L) hC.2.2.2.1.1 (ρ.2 (i + 1))
  have hM1 : MSd Q sd n t T J1 L := MSd_to hM (fun q hq => by funext j; exact b3 q j (by omega)) (fun _ _ _ => rfl)
  obtain ⟨J2, m1, m2, m3⟩ := M_end_e (ρ := ρ) (d := d) (c := c) (R := R) (L := L) hM1.2.2.1 (ρ.2 (i + 1))
  have hpg := isP_g hC.1.2.1.2.2.2.1.1
  have hJ1 : ∀ q, q ≠ 1 → J1 q = I q := fun q y1 => by funext j; exact b3 q j (by omega)
  have hJ2 : ∀ q, q ≠ 257 → J2 q = J1 q := fun q y1 => by funext j; exact m3 q j (by omega)
  refine ⟨c, R, J2, L, (pEnd n (ρ.2 (i + 1))).2, t, Q, T, sd, p, ?_, ⟨hN, hB, hS, ⟨⟨hM1.1.1, PM_to hM1.1.2.1 (fun q hq => ?_) (m3 _ _ (by omega)), by rw [hJ2 274 (by decide)]; exact hM1.1.2.2⟩, RM_to hM1.2.1 (fun q g1 g2 => hJ2 q (by omega)) (fun _ _ _ => rfl), ⟨m2, by omega, fun k hk => by rw [hJ2 258 (by decide)]; exact hM1.2.2.2.2 k (by omega)⟩⟩, CSd_to (J := J2) (I := J1) (L := L) ⟨BX_fr hC.1 (fun q hq => hJ1 q (by omega)) rfl rfl rfl, hC.2.1, ⟨hC.2.2.1.1, fun v hv => by rw [hJ1 _ (by omega)]; exact hC.2.2.1.2 v hv⟩, ⟨b2, by omega, fun k hk => by rw [hJ1 2 (by decide)]; exact hC.2.2.2.1.2.2 k (by omega)⟩, ?_⟩ (fun q hq => hJ2 q (by omega)) (fun _ _ => rfl)⟩, Nat.le_add_right _ _, Nat.le_add_right _ _, Nat.le_add_right _ _⟩
  · rw [bLaw_law_23, if_neg hr, zidx_n (show i < ρ.1 by omega) (by omega), hk, if_neg (by decide), if_pos rfl, e1, zidx_n (show i + 1 < ρ.1 by omega) (by omega), b1, zci, bLaw_law_313, e1, zidx_n (show i + 1 < ρ.1 by omega) (by omega), m1, zci, bLaw_law_323, if_pos rfl, bLaw_law_1054, e7]
  · have : ∀ q, q ∈ bdM → q ≠ 257 := by decide
    exact hJ2 q (this q hq)
  · have hW := hC.2.2.2.2
    unfold WK at hW ⊢
    rw [hJ1 0 (by decide), hJ1 256 (by decide)]
    exact hW
theorem lw_2 (hi : i + 7 ≤ ρ.1) (hl : ρ.1 < 2 ^ 20) (hr : ¬ nI ρ.1 - nI 7 < nI i) (hk : ρ.2 i &&& nI 31 = nI 2) (hc : T.2.2.2.2 + 36 < 2 ^ 30) (h : WS n t Q T sd p R I L) : LNx ρ d i c R I L T := by
  obtain ⟨hN, hB, hS, hM, hC⟩ := h
  have hV := plQ_v hN hB
  have hI := hC.1.2.2.1
  have e7 : nI i + nI 7 = nI (i + 7) := nI_add _ _
  have hp := hC.1.2.1.2.2.2.1.1
  have hpg := isP_g hp
  have hp2 : isP (58 - p) := by unfold isP at hp ⊢; omega
  have hne : 58 - p ≠ p := by unfold isP at hp; omega
  obtain ⟨S, J1, L1, b1, b2, b3, b4, b5⟩ := B_board_e (ρ := ρ) (d := d) (c := c) (L := L) hC.1 hC.2.1 hp2 hne hC.2.2.2.1
  have hM1 : MSd Q sd n t T J1 L1 := MSd_to hM b3 (fun q g1 g2 => b4 q (by omega))
  obtain ⟨hs, h18, -⟩ := hM1.1.2.1
  obtain ⟨J2, L2, m1, m2, m3⟩ := M_board_e (ρ := ρ) (d := d + 23) (c := c) (R := S) (L := L1) hM1.2.2 h18 hs
  have hgo : EV ρ (d + 31) 235 23 [.ref 2000, .ref 0, .ref 257, .ref 280, .int (nI i), zU, zU] [] (mk c R I L) = EV ρ (d + 31) 235 23 [.ref 2000, .ref 0, .ref 257, .ref 280, .int (nI (i + 7)), zU, zU] [] (mk c S J2 L2) := by
    rw [bLaw_law_23, if_neg hr, zidx_n (show i < ρ.1 by omega) (by omega), hk, if_neg (by decide), if_neg (by decide), if_pos rfl, b1, zci, bLaw_law_332, m1, zci, bLaw_law_336, if_pos rfl, bLaw_law_1054, e7]
  cases e : (pBrd n t).2 with
  | none =>
    rw [e] at b5 m3
    simp only at b5 m3
    obtain ⟨x1, x2, x3, x4⟩ := b5
    obtain ⟨y1, y2, y3⟩ := m3
    have hlo : ∀ q, q < 257 → J2 q = J1 q := fun q hq => by
      funext j
      rcases y2 q j with g | g | g
      · exact g
      · omega
      · omega
    have hRM := RM_fr (J := J2) (L' := L2) hN.1 hN.2.1 hB hN hs hM1.2.1 y2 y3
    refine ⟨c, S, J2, L2, 0, t, Q, T, sd, p, hgo, ⟨hN, hB, hS, ⟨⟨hV, plQ_m hN hB hs y1 hRM, ?_⟩, hRM, ⟨m2, Nat.zero_le _, fun k hk => absurd hk (Nat.not_lt_zero _)⟩⟩, CSd_to (J := J2) (I := J1) (L := L1) (L' := L2) ⟨x1, x2, ⟨?_, fun v hv => ?_⟩, ⟨b2, Nat.zero_le _, fun k hk => absurd hk (Nat.not_lt_zero _)⟩, ?_⟩ hlo (fun q hq => ?_)⟩, Nat.le_add_right _ _, Nat.le_add_right _ _, Nat.le_add_right _ _⟩
    · rw [show J2 274 = J1 274 from by
        funext j
        rcases y2 274 j with g | g | g
        · exact g
        · omega
        · omega]
      exact hM1.1.2.2
    · have := hC.2.2.1.1
      unfold RCn at this ⊢
      rw [x4 (p + 1) (by omega), x4 (p + 2) (by omega), x4 (p + 3) (by omega)]
      exact this
    · rw [x3 (p + 9) (by omega)]; exact hC.2.2.1.2 v hv
    · have hW := hC.2.2.2.2
      unfold WK at hW ⊢
      rw [x3 0 (by omega), x3 256 (by omega)]
      exact hW
    · funext j; exact FPM_o y3 (by omega) (by omega)
  | some Q' =>
    rw [e] at b5 m3
    simp only at b5 m3
    obtain ⟨x1, x2, x3, x4⟩ := b5
    obtain ⟨y1, y2, y3, y4, y5⟩ := m3
    have hy : yBoard n t = .ok Q' := by
      unfold pBrd at e
      split at e
      · cases ey : yBoard n t with
        | error z => rw [ey] at e; cases e
        | ok z => rw [ey] at e; cases e; rfl
      · cases e
    obtain ⟨v1, v2, v3⟩ := yBoard_v hy
    have hV' := plQ_v v1 v2
    refine ⟨c, S, J2, L2, 0, t, Q', tNew [] 0, 1 - sd, 58 - p, hgo, ⟨v1, v2, NS_new _ _ _, ⟨⟨hV', plQ_m v1 v2 (by omega) y1 y2, y3⟩, y2, ⟨m2, Nat.zero_le _, fun k hk => absurd hk (Nat.not_lt_zero _)⟩⟩, CSd_to (J := J2) (I := J1) (L := L1) (L' := L2) ⟨x1, ?_, x4, ⟨b2, Nat.zero_le _, fun k hk => absurd hk (Nat.not_lt_zero _)⟩, .inl x3⟩ y4 y5⟩, Nat.zero_le _, Nat.le_add_right _ _, Nat.le_add_right _ _⟩
    rw [x2]
    congr 1
    unfold isP at hp
    omega
theorem lw_23 (hi : i + 7 ≤ ρ.1) (hl : ρ.1 < 2 ^ 20) (hr : ¬ nI ρ.1 - nI 7 < nI i) (hk : ρ.2 i &&& nI 31 = nI 23) (hc : T.2.2.2.2 + 36 < 2 ^ 30) (h : WS n t Q T sd p R I L) : LNx ρ d i c R I L T := by
  obtain ⟨hN, hB, hS, hM, hC⟩ := h
  have hV := plQ_v hN hB
  have hI := hC.1.2.2.1
  have e1 : nI i + nI 1 = nI (i + 1) := nI_add _ _
  have e7 : nI i + nI 7 = nI (i + 7) := nI_add _ _
  obtain ⟨hs, h18, -⟩ := hM.1.2.1
  have hp := hC.1.2.1.2.2.2.1.1
  have hpg := isP_g hp
  have hPC := hC.1.2.1.2.2.2.1
  have hcc : RCc Q p I := ⟨hPC.2.1, hPC.2.2.1, hPC.2.2.2.1⟩
  have hM1 : MSd Q sd n t T (z2 I 1 1 (nI 0)) L := MSd_to hM (fun q hq => z2_ne (by omega)) (fun _ _ _ => rfl)
  obtain ⟨J2, m1, m2, m3⟩ := M_find_e (ρ := ρ) (d := d) (c := c) (R := R) (L := L) hN hs (hM1.1.2.1.2.1) hM1.2.1.1 hM1.2.1.2.1 hM1.2.2 (ρ.2 (i + 1))
  have hJ2 : ∀ q, q ≠ 257 → J2 q = z2 I 1 1 (nI 0) q := fun q y1 => by funext j; exact m3 q j (by omega)
  refine ⟨c, R, J2, L, 0, t, Q, T, sd, p, ?_, ⟨hN, hB, hS, ⟨⟨hV, PM_to hM1.1.2.1 (fun q hq => ?_) (m3 _ _ (by omega)), by rw [hJ2 274 (by decide)]; exact hM1.1.2.2⟩, RM_to hM1.2.1 (fun q g1 g2 => hJ2 q (by omega)) (fun _ _ _ => rfl), ⟨m2, Nat.zero_le _, fun k hk => absurd hk (Nat.not_lt_zero _)⟩⟩, CSd_to (J := J2) (I := z2 I 1 1 (nI 0)) (L := L) ⟨BX_fr hC.1 (fun q hq => z2_ne (by omega)) rfl rfl rfl, hC.2.1, ⟨hC.2.2.1.1, fun v hv => by rw [z2_ne (by omega)]; exact hC.2.2.1.2 v hv⟩, ⟨z2_at _ _ _ _, Nat.zero_le _, fun k hk => absurd hk (Nat.not_lt_zero _)⟩, ?_⟩ (fun q hq => hJ2 q (by omega)) (fun _ _ => rfl)⟩, Nat.le_add_right _ _, Nat.le_add_right _ _, Nat.le_add_right _ _⟩
  · rw [bLaw_law_23, if_neg hr, zidx_n (show i < ρ.1 by omega) (by omega), hk, if_neg (by decide), if_neg (by decide), if_neg (by decide), if_neg (by decide), if_neg (by decide), if_neg (by decide), if_neg (by decide), if_neg (by decide), if_neg (by decide), if_neg (by decide), if_neg (by decide), if_neg (by decide), if_neg (by decide), if_neg (by decide), if_neg (by decide), if_neg (by decide), if_neg (by decide), if_neg (by decide), if_neg (by decide), if_neg (by decide), if_neg (by decide), if_neg (by decide), if_neg (by decide), if_pos rfl, e1, zidx_n (show i + 1 < ρ.1 by omega) (by omega), B_find_e hN hC.1.1 hp hcc hC.2.2.1.1 hC.2.2.2.1, zci, bLaw_law_1014, e1, zidx_n (show i + 1 < ρ.1 by omega) (by omega), m1, zci, bLaw_law_1024, if_pos rfl, bLaw_law_1054, e7]
  · have : ∀ q, q ∈ bdM → q ≠ 257 := by decide
    exact hJ2 q (this q hq)
  · have hW := hC.2.2.2.2
    unfold WK at hW ⊢
    rw [z2_ne (by decide), z2_ne (by decide)]
    exact hW
theorem lw_24 (hi : i + 7 ≤ ρ.1) (hl : ρ.1 < 2 ^ 20) (hr : ¬ nI ρ.1 - nI 7 < nI i) (hk : ρ.2 i &&& nI 31 = nI 24) (hc : T.2.2.2.2 + 36 < 2 ^ 30) (h : WS n t Q T sd p R I L) : LNx ρ d i c R I L T := by
  obtain ⟨hN, hB, hS, hM, hC⟩ := h
  have hV := plQ_v hN hB
  have hI := hC.1.2.2.1
  have e1 : nI i + nI 1 = nI (i + 1) := nI_add _ _
  have e7 : nI i + nI 7 = nI (i + 7) := nI_add _ _
  refine ⟨c, R, z2 I 257 2 (nI 0), L, n, t, Q, T, sd, p, ?_, ⟨hN, hB, hS, MSd_2 hM, CSd_2 hC⟩, Nat.le_add_right _ _, Nat.le_add_right _ _, Nat.le_add_right _ _⟩
  rw [bLaw_law_23, if_neg hr, zidx_n (show i < ρ.1 by omega) (by omega), hk, if_neg (by decide), if_neg (by decide), if_neg (by decide), if_neg (by decide), if_neg (by decide), if_neg (by decide), if_neg (by decide), if_neg (by decide), if_neg (by decide), if_neg (by decide), if_neg (by decide), if_neg (by decide), if_neg (by decide), if_neg (by decide), if_neg (by decide), if_neg (by decide), if_neg (by decide), if_neg (by decide), if_neg (by decide), if_neg (by decide), if_neg (by decide), if_neg (by decide), if_neg (by decide), if_neg (by decide), if_pos rfl, e1, zidx_n (show i + 1 < ρ.1 by omega) (by omega), B_count_e hC.1 hS, zci, bLaw_law_1039, e1, zidx_n (show i + 1 < ρ.1 by omega) (by omega), M_cnt_e hM.1 hI.1.1, zci, bLaw_law_1049, hC.2.2.2.1.1, hM.2.2.1, if_pos rfl, bLaw_law_1054, e7]
theorem lw_22 (hi : i + 7 ≤ ρ.1) (hl : ρ.1 < 2 ^ 20) (hr : ¬ nI ρ.1 - nI 7 < nI i) (hk : ρ.2 i &&& nI 31 = nI 22) (hc : T.2.2.2.2 + 36 < 2 ^ 30) (h : WS n t Q T sd p R I L) : LNx ρ d i c R I L T := by
  obtain ⟨hN, hB, hS, hM, hC⟩ := h
  have hV := plQ_v hN hB
  have hI := hC.1.2.2.1
  have e1 : nI i + nI 1 = nI (i + 1) := nI_add _ _
  have e2 : nI i + nI 2 = nI (i + 2) := nI_add _ _
  have e7 : nI i + nI 7 = nI (i + 7) := nI_add _ _
  have hJou : JouIs I T.2.1.2.2 := (hC.1.2.1.2.2.2.2.2.2.2.2.2.1 rfl).1
  obtain ⟨j1, j2, j3, -⟩ := id hJou
  have h2 : ∀ w : Int32, (w < 0 ∨ 2 < w) ↔ ¬ inN w 3 = true := fun w => by
    unfold inN
    rw [decide_eq_true_iff]
    have : (2 < w) ↔ nI 3 ≤ w := by
      rw [Int32.lt_iff_toInt_lt, Int32.le_iff_toInt_le, nI_toInt (by decide)]
      show (2 : Int) < _ ↔ (3 : Int) ≤ _
      omega
    rw [this]
    constructor
    · rintro (z | z) ⟨y1, y2⟩
      · exact y1 z
      · exact y2 z
    · intro z
      by_cases y1 : w < 0
      · exact .inl y1
      · by_cases y2 : nI 3 ≤ w
        · exact .inr y2
        · exact absurd ⟨y1, y2⟩ z
  have h3 : ∀ v : Int32, (v < 0 ∨ nI T.2.1.2.2.length ≤ v) ↔ ¬ inN v T.2.1.2.2.length = true := fun v => by
    unfold inN
    rw [decide_eq_true_iff]
    constructor
    · rintro (z | z) ⟨y1, y2⟩
      · exact y1 z
      · exact y2 z
    · intro z
      by_cases y1 : v < 0
      · exact .inl y1
      · by_cases y2 : nI T.2.1.2.2.length ≤ v
        · exact .inr y2
        · exact absurd ⟨y1, y2⟩ z
  by_cases hin : inN (ρ.2 (i + 1)) T.2.1.2.2.length = true ∧ inN (ρ.2 (i + 2)) 3 = true
  · have hno : ¬ (ρ.2 (i + 1) < 0 ∨ I 8 3 ≤ ρ.2 (i + 1) ∨ ρ.2 (i + 2) < 0 ∨ 2 < ρ.2 (i + 2)) := by
      rw [j3]
      rintro (z | z | z | z)
      · exact (h3 _).mp (.inl z) hin.1
      · exact (h3 _).mp (.inr z) hin.1
      · exact (h2 _).mp (.inl z) hin.2
      · exact (h2 _).mp (.inr z) hin.2
    obtain ⟨x, hx, ex⟩ := (inN_iff (by omega)).mp hin.1
    obtain ⟨y, hy, ey⟩ := (inN_iff (by decide)).mp hin.2
    have hxe : T.2.1.2.2[x]? = some T.2.1.2.2[x] := List.getElem?_eq_getElem hx
    have hcell := Jou_cell_e (ρ := ρ) (d := d + 29) (c := c) (R := R) (L := L) hJou hxe hy
    have hp : pLog T (ρ.2 (i + 1)) (ρ.2 (i + 2)) = some (if y = 0 then T.2.1.2.2[x].1 else if y = 1 then T.2.1.2.2[x].2.1 else T.2.1.2.2[x].2.2) := by
      unfold pLog
      rw [if_pos hin, ex, nI_clamp (by omega), hxe, ey]
      show some (if nI y = nI 0 then _ else if nI y = nI 1 then _ else _) = _
      have hy3 : y = 0 ∨ y = 1 ∨ y = 2 := by omega
      rcases hy3 with rfl | rfl | rfl
      · rw [if_pos rfl, if_pos rfl]
      · rw [if_neg (by decide), if_pos rfl, if_neg (by decide), if_pos rfl]
      · rw [if_neg (by decide), if_neg (by decide), if_neg (by decide), if_neg (by decide)]
    generalize (if y = 0 then T.2.1.2.2[x].1 else if y = 1 then T.2.1.2.2[x].2.1 else T.2.1.2.2[x].2.2) = X at hcell hp
    have hM1 : MSd Q sd n t T I (z2 L 280 0 X.toInt64) := MSd_to hM (fun _ _ => rfl) (fun q g1 g2 => z2_ne (by omega))
    have hC1 : CSd Q p n t T R I (z2 L 280 0 X.toInt64) := CSd_to hC (fun _ _ => rfl) (fun q hq => z2_ne (by omega))
    refine ⟨c, R, z2 I 257 2 (nI 0), z2 L 280 0 X.toInt64, n, t, Q, T, sd, p, ?_, ⟨hN, hB, hS, MSd_2 hM1, CSd_2 hC1⟩, Nat.le_add_right _ _, Nat.le_add_right _ _, Nat.le_add_right _ _⟩
    rw [bLaw_law_23, if_neg hr, zidx_n (show i < ρ.1 by omega) (by omega), hk, if_neg (by decide), if_neg (by decide), if_neg (by decide), if_neg (by decide), if_neg (by decide), if_neg (by decide), if_neg (by decide), if_neg (by decide), if_neg (by decide), if_neg (by decide), if_neg (by decide), if_neg (by decide), if_neg (by decide), if_neg (by decide), if_neg (by decide), if_neg (by decide), if_neg (by decide), if_neg (by decide), if_neg (by decide), if_neg (by decide), if_neg (by decide), if_neg (by decide), if_pos rfl, e1, zidx_n (show i + 1 < ρ.1 by omega) (by omega), e2, zidx_n (show i + 2 < ρ.1 by omega) (by omega), if_neg hno, ex, ey, hcell, zci]
    show zobj zC (mk c R I L) 280 21 (EV ρ (d + 31) 235 953 [.ref 2000, .ref 0, .ref 257, .ref 280, .int (nI i), zU, zU] [.int (nI 0)] (mk c R I (z2 L 280 0 X.toInt64))) = _
    have hml := M_log_e (ρ := ρ) (d := d) (c := c) (R := R) (L := z2 L 280 0 X.toInt64) hM1.1 (ρ.2 (i + 1)) (ρ.2 (i + 2))
    rw [hp] at hml
    simp only at hml
    rw [zob rfl, bLaw_law_953, e1, zidx_n (show i + 1 < ρ.1 by omega) (by omega), e2, zidx_n (show i + 2 < ρ.1 by omega) (by omega), hml, zci, bLaw_law_971, bM_thrown_0, z2_at, zci, bLaw_law_977, if_pos rfl, if_pos (by decide), z2_at, if_pos ((lg_cmp_eq _ _).mpr rfl), bLaw_law_1001, bLaw_law_1054, e7]
  · have hyes : (ρ.2 (i + 1) < 0 ∨ I 8 3 ≤ ρ.2 (i + 1) ∨ ρ.2 (i + 2) < 0 ∨ 2 < ρ.2 (i + 2)) := by
      rw [j3]
      by_cases z1 : inN (ρ.2 (i + 1)) T.2.1.2.2.length = true
      · rcases (h2 (ρ.2 (i + 2))).mpr (fun z => hin ⟨z1, z⟩) with z | z
        · exact .inr (.inr (.inl z))
        · exact .inr (.inr (.inr z))
      · rcases (h3 _).mpr z1 with z | z
        · exact .inl z
        · exact .inr (.inl z)
    have hp : pLog T (ρ.2 (i + 1)) (ρ.2 (i + 2)) = none := by unfold pLog; rw [if_neg hin]
    refine ⟨(c.1 + 1, c.2 + 6), R, z2 I 257 2 (nI 1), L, n, t, Q, T, sd, p, ?_, ⟨hN, hB, hS, MSd_2 hM, CSd_2 hC⟩, Nat.le_add_right _ _, Nat.le_refl _, Nat.le_refl _⟩
    rw [bLaw_law_23, if_neg hr, zidx_n (show i < ρ.1 by omega) (by omega), hk, if_neg (by decide), if_neg (by decide), if_neg (by decide), if_neg (by decide), if_neg (by decide), if_neg (by decide), if_neg (by decide), if_neg (by decide), if_neg (by decide), if_neg (by decide), if_neg (by decide), if_neg (by decide), if_neg (by decide), if_neg (by decide), if_neg (by decide), if_neg (by decide), if_neg (by decide), if_neg (by decide), if_neg (by decide), if_neg (by decide), if_neg (by decide), if_neg (by decide), if_pos rfl, e1, zidx_n (show i + 1 < ρ.1 by omega) (by omega), e2, zidx_n (show i + 2 < ρ.1 by omega) (by omega), if_pos hyes]
    show EV ρ (d + 31) 235 953 [.ref 2000, .ref 0, .ref 257, .ref 280, .int (nI i), zU, zU] [.int (nI 1)] (mk (c.1 + 1, c.2 + 6) R I L) = _
    have hml := M_log_e (ρ := ρ) (d := d) (c := (c.1 + 1, c.2 + 6)) (R := R) (L := L) hM.1 (ρ.2 (i + 1)) (ρ.2 (i + 2))
    rw [hp] at hml
    simp only at hml
    rw [bLaw_law_953, e1, zidx_n (show i + 1 < ρ.1 by omega) (by omega), e2, zidx_n (show i + 2 < ρ.1 by omega) (by omega), hml, zci, bLaw_law_971, bM_thrown_0, z2_at, zci, bLaw_law_977, if_pos rfl, if_neg (by decide), bLaw_law_1001, bLaw_law_1054, e7]
theorem lw_d {k : Nat} (h25 : 25 ≤ k) (h32 : k < 32) (hi : i + 7 ≤ ρ.1) (hl : ρ.1 < 2 ^ 20) (hr : ¬ nI ρ.1 - nI 7 < nI i) (hk : ρ.2 i &&& nI 31 = nI k) (h : WS n t Q T sd p R I L) : LNx ρ d i c R I L T := by
  have e7 : nI i + nI 7 = nI (i + 7) := nI_add _ _
  have hz : ∀ j, j < 25 → ¬ nI k = nI j := fun j hj z => by have := (nI_eq (by omega) (by omega)).mp z; omega
  refine ⟨c, R, I, L, n, t, Q, T, sd, p, ?_, h, Nat.le_add_right _ _, Nat.le_add_right _ _, Nat.le_add_right _ _⟩
  rw [bLaw_law_23, if_neg hr, zidx_n (show i < ρ.1 by omega) (by omega), hk, if_neg (hz 0 (by decide)), if_neg (hz 1 (by decide)), if_neg (hz 2 (by decide)), if_neg (hz 3 (by decide)), if_neg (hz 4 (by decide)), if_neg (hz 5 (by decide)), if_neg (hz 6 (by decide)), if_neg (hz 7 (by decide)), if_neg (hz 8 (by decide)), if_neg (hz 9 (by decide)), if_neg (hz 10 (by decide)), if_neg (hz 11 (by decide)), if_neg (hz 12 (by decide)), if_neg (hz 13 (by decide)), if_neg (hz 14 (by decide)), if_neg (hz 15 (by decide)), if_neg (hz 16 (by decide)), if_neg (hz 17 (by decide)), if_neg (hz 18 (by decide)), if_neg (hz 19 (by decide)), if_neg (hz 20 (by decide)), if_neg (hz 21 (by decide)), if_neg (hz 22 (by decide)), if_neg (hz 23 (by decide)), if_neg (hz 24 (by decide)), bLaw_law_1054, e7]
theorem and31 (x : Int32) : ∃ k, k < 32 ∧ x &&& nI 31 = nI k := by
  refine ⟨x.toBitVec.toNat % 32, Nat.mod_lt _ (by decide), b_ext (fun i hi => ?_)⟩
  have h31 : ∀ i, i < 32 → bt (nI 31) i = decide (i < 5) := by decide +kernel
  rw [b_and, h31 i hi, bt_nI hi]
  show _ = (x.toBitVec.toNat % 2 ^ 5).testBit i
  rw [Nat.testBit_mod_two_pow, Bool.and_comm]
  rfl
/-- a round -/
theorem lw_step (hi : i + 7 ≤ ρ.1) (hl : ρ.1 < 2 ^ 20) (hc : T.2.2.2.2 + 36 < 2 ^ 30) (h : WS n t Q T sd p R I L) : LNx ρ d i c R I L T := by
  have hr : ¬ nI ρ.1 - nI 7 < nI i := by
    rw [pk_sub (by omega)]
    exact nI_nlt (by omega) (by omega)
  obtain ⟨k, hk, e⟩ := and31 (ρ.2 i)
  by_cases h25 : 25 ≤ k
  · exact lw_d h25 hk hi hl hr e h
  · have hk25 : k = 0 ∨ k = 1 ∨ k = 2 ∨ k = 3 ∨ k = 4 ∨ k = 5 ∨ k = 6 ∨ k = 7 ∨ k = 8 ∨ k = 9 ∨ k = 10 ∨ k = 11 ∨ k = 12 ∨ k = 13 ∨ k = 14 ∨ k = 15 ∨ k = 16 ∨ k = 17 ∨ k = 18 ∨ k = 19 ∨ k = 20 ∨ k = 21 ∨ k = 22 ∨ k = 23 ∨ k = 24 := by omega
    rcases hk25 with rfl | rfl | rfl | rfl | rfl | rfl | rfl | rfl | rfl | rfl | rfl | rfl | rfl | rfl | rfl | rfl | rfl | rfl | rfl | rfl | rfl | rfl | rfl | rfl | rfl
    · exact lw_0 hi hl hr e hc h
    · exact lw_1 hi hl hr e hc h
    · exact lw_2 hi hl hr e hc h
    · exact lw_3 hi hl hr e hc h
    · exact lw_4 hi hl hr e hc h
    · exact lw_5 hi hl hr e hc h
    · exact lw_6 hi hl hr e hc h
    · exact lw_7 hi hl hr e hc h
    · exact lw_8 hi hl hr e hc h
    · exact lw_9 hi hl hr e hc h
    · exact lw_10 hi hl hr e hc h
    · exact lw_11 hi hl hr e hc h
    · exact lw_12 hi hl hr e hc h
    · exact lw_13 hi hl hr e hc h
    · exact lw_14 hi hl hr e hc h
    · exact lw_15 hi hl hr e hc h
    · exact lw_16 hi hl hr e hc h
    · exact lw_17 hi hl hr e hc h
    · exact lw_18 hi hl hr e hc h
    · exact lw_19 hi hl hr e hc h
    · exact lw_20 hi hl hr e hc h
    · exact lw_21 hi hl hr e hc h
    · exact lw_22 hi hl hr e hc h
    · exact lw_23 hi hl hr e hc h
    · exact lw_24 hi hl hr e hc h
/-- the law's loop answers true -/
theorem lw_loop (hl : ρ.1 ≤ 3584) : ∀ (m i : Nat) (c : Nat × Nat) (R : Nat → Nat → Option Nat) (I : Nat → Nat → Int32) (L : Nat → Nat → Int64) (n : Nat) (t : Nat → Nat) (Q : QT) (T : TT) (sd p : Nat), ρ.1 - i = m → T.2.2.2.2 ≤ 12 * i → WS n t Q T sd p R I L → i ≤ ρ.1 + 7 → ∃ s, EV ρ (d + 31) 235 23 [.ref 2000, .ref 0, .ref 257, .ref 280, .int (nI i), zU, zU] [] (mk c R I L) = some ([.int (nI 1)], s) ∧ s.1.1 = NC ∧ s.1.2.1 ≤ c.1 + (ρ.1 - i) ∧ s.1.2.2 ≤ c.2 + 6 * (ρ.1 - i) := by
  intro m
  induction m using Nat.strongRecOn with
  | ind m ih =>
    intro i c R I L n t Q T sd p hm hc h hi7
    by_cases hi : i + 7 ≤ ρ.1
    · obtain ⟨c', R', J, L', n', t', Q', T', sd', p', g1, g2, g3, g4, g5⟩ := lw_step (ρ := ρ) (d := d) (c := c) hi (by omega) (by omega) h
      obtain ⟨s, hs, k1, k2, k3⟩ := ih (ρ.1 - (i + 7)) (by omega) (i + 7) c' R' J L' n' t' Q' T' sd' p' rfl (by omega) g2 (by omega)
      exact ⟨s, g1.trans hs, k1, by omega, by omega⟩
    · have hr : nI ρ.1 - nI 7 < nI i := by
        rw [Int32.lt_iff_toInt_lt, pk_sub_toInt (by omega) (by omega), nI_toInt (by omega)]
        omega
      exact ⟨mk c R I L, by rw [bLaw_law_23, if_pos hr], rfl, Nat.le_add_right _ _, Nat.le_add_right _ _⟩
end LAW
