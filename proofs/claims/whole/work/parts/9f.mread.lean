-- THE REFERENCE READS: its state, words, names
/-- a fault e is noted -/
def FSt (e : Nat) (I : Nat → Nat → Int32) : Prop := ∃ y b, I 257 28 = nI y ∧ I 257 29 = nI b ∧ e = 8 * b + y ∧ 1 ≤ y ∧ y ≤ 4 ∧ b ≤ 648
/-- behind wrong -/
def wr (I : Nat → Nat → Int32) (y : Nat) : Nat → Nat → Int32 := z2 (z2 I 257 28 (nI y)) 257 29 (I 257 24)
/-- how many places of a row a board has -/
def wdt (q : Nat) : Nat := if q = 259 then 3 else if q = 261 then 96 else if q = 265 then 36 else if q = 268 then 192 else if q = 269 then 24 else if q = 271 ∨ q = 272 then 48 else if q = 260 ∨ q = 262 ∨ q = 263 ∨ q = 264 then 12 else 8
/-- what reading a board into side b changes -/
def FPM {α : Type} (b : Nat) (I J : Nat → Nat → α) : Prop := ∀ q j, J q j = I q j ∨ (q = 257 ∧ 23 ≤ j ∧ j ≤ 29) ∨ (259 ≤ q ∧ q ≤ 273 ∧ wdt q * b ≤ j ∧ j < wdt q * b + wdt q)
section FPMS
variable {α : Type} {b : Nat} {I J K : Nat → Nat → α}
theorem FPM_r : FPM b I I := fun _ _ => .inl rfl
theorem FPM_t (h : FPM b I J) (h2 : FPM b J K) : FPM b I K := fun q j => by
  rcases h2 q j with e | e | e
  · rcases h q j with g | g | g
    · exact .inl (e.trans g)
    · exact .inr (.inl g)
    · exact .inr (.inr g)
  · exact .inr (.inl e)
  · exact .inr (.inr e)
theorem FPM_7 (h : FS7 I J) : FPM b I J := fun q j => by
  by_cases e : q = 257 ∧ 23 ≤ j ∧ j ≤ 27
  · exact .inr (.inl ⟨e.1, e.2.1, by omega⟩)
  · exact .inl (h q j e)
theorem FPM_z {q j : Nat} {v : α} (h : FPM b I J) (hq : 259 ≤ q) (hq2 : q ≤ 273) (h1 : wdt q * b ≤ j) (h2 : j < wdt q * b + wdt q) : FPM b I (z2 J q j v) := fun a i => by
  by_cases e : a = q ∧ i = j
  · rw [e.1, e.2]; exact .inr (.inr ⟨hq, hq2, h1, h2⟩)
  · rw [z2a, if_neg e]; exact h a i
theorem FPM_f {j : Nat} {v : α} (h : FPM b I J) (h1 : 23 ≤ j) (h2 : j ≤ 29) : FPM b I (z2 J 257 j v) := fun a i => by
  by_cases e : a = 257 ∧ i = j
  · rw [e.1, e.2]; exact .inr (.inl ⟨rfl, h1, h2⟩)
  · rw [z2a, if_neg e]; exact h a i
theorem FPM_o {q j : Nat} (h : FPM b I J) (h1 : ¬ (q = 257 ∧ 23 ≤ j ∧ j ≤ 29)) (h2 : ¬ (259 ≤ q ∧ q ≤ 273)) : J q j = I q j := by
  rcases h q j with e | e | e
  · exact e
  · exact absurd e h1
  · exact absurd ⟨e.1, e.2.1⟩ h2
end FPMS
theorem FPM_w {b y : Nat} {I J : Nat → Nat → Int32} (h : FPM b I J) : FPM b I (wr J y) := FPM_f (FPM_f h (by decide) (by decide)) (by decide) (by decide)
theorem TP_p {n b : Nat} {t : Nat → Nat} {I J : Nat → Nat → Int32} (h : TP n t I) (h2 : FPM b I J) : TP n t J := by
  refine ⟨?_, h.2.1, fun i hi => ?_⟩
  · rw [FPM_o h2 (by omega) (by omega)]; exact h.1
  · rw [FPM_o h2 (by omega) (by omega)]; exact h.2.2 i hi
/-- counts, names, ids, parents, needs, patterns, steps -/
def RMc (Q : QT) (b : Nat) (I : Nat → Nat → Int32) : Prop := I 259 (3 * b) = nI Q.1.1 ∧ I 259 (3 * b + 1) = nI Q.1.2.1 ∧ I 259 (3 * b + 2) = nI Q.1.2.2
def RMn (Q : QT) (b : Nat) (L : Nat → Nat → Int64) : Prop := (∀ x, x < Q.1.1 → L 260 (12 * b + x) = c56 (Q.2.2.2.2.1 x)) ∧ (∀ x, x < Q.1.2.1 → L 266 (8 * b + x) = c56 (Q.2.2.2.2.2.2.1 x)) ∧ (∀ x, x < Q.1.2.2 → L 273 (8 * b + x) = c56 (Q.2.2.2.2.2.2.2.2 x))
def RMi (m : Nat) (Q : QT) (b : Nat) (I : Nat → Nat → Int32) : Prop := ∀ x, x < m → I 262 (12 * b + x) = nI (Q.2.2.2.2.2.1 x).length ∧ ∀ k z, (Q.2.2.2.2.2.1 x)[k]? = some z → I 261 (8 * (12 * b + x) + k) = nI z
def RMp (m : Nat) (Q : QT) (b : Nat) (I : Nat → Nat → Int32) : Prop := ∀ x, x < m → I 263 (12 * b + x) = eO (Q.2.1 x)
def RMe (m : Nat) (Q : QT) (b : Nat) (I : Nat → Nat → Int32) : Prop := ∀ x, x < m → I 264 (12 * b + x) = nI (Q.2.2.1 x).length ∧ ∀ k z, (Q.2.2.1 x)[k]? = some z → I 265 (3 * (12 * b + x) + k) = nI z
def RMt (u : Nat) (Q : QT) (b : Nat) (I : Nat → Nat → Int32) : Prop := ∀ v, v < u → I 267 (8 * b + v) = nI (Q.2.2.2.2.2.2.2.1 v).length ∧ ∀ i w, (Q.2.2.2.2.2.2.2.1 v)[i]? = some w → I 269 (3 * (8 * b + v) + i) = nI w.length ∧ ∀ k z, w[k]? = some z → I 268 (8 * (3 * (8 * b + v) + i) + k) = nI z
def RMs (u : Nat) (Q : QT) (b : Nat) (I : Nat → Nat → Int32) : Prop := ∀ v, v < u → I 270 (8 * b + v) = nI (Q.2.2.2.1 v).length ∧ ∀ k z, (Q.2.2.2.1 v)[k]? = some z → I 271 (6 * (8 * b + v) + k) = nI z.1 ∧ I 272 (6 * (8 * b + v) + k) = nI z.2
def RM (m u : Nat) (Q : QT) (b : Nat) (I : Nat → Nat → Int32) (L : Nat → Nat → Int64) : Prop := RMc Q b I ∧ RMn Q b L ∧ RMi m Q b I ∧ RMp m Q b I ∧ RMe m Q b I ∧ RMt u Q b I ∧ RMs u Q b I
theorem RM_to {m u : Nat} {Q : QT} {b : Nat} {I J : Nat → Nat → Int32} {L L' : Nat → Nat → Int64} (h : RM m u Q b I L) (h1 : ∀ q, 259 ≤ q → q ≤ 273 → J q = I q) (h2 : ∀ q, 259 ≤ q → q ≤ 273 → L' q = L q) : RM m u Q b J L' := by
  unfold RM RMc RMn RMi RMp RMe RMt RMs at h ⊢
  rw [h1 259 (by decide) (by decide), h1 261 (by decide) (by decide), h1 262 (by decide) (by decide), h1 263 (by decide) (by decide), h1 264 (by decide) (by decide), h1 265 (by decide) (by decide), h1 267 (by decide) (by decide), h1 268 (by decide) (by decide), h1 269 (by decide) (by decide), h1 270 (by decide) (by decide), h1 271 (by decide) (by decide), h1 272 (by decide) (by decide), h2 260 (by decide) (by decide), h2 266 (by decide) (by decide), h2 273 (by decide) (by decide)]
  exact h
theorem FS7_c {α : Type} {I J : Nat → Nat → α} (h : FS7 I J) {q : Nat} (hq : q ≠ 257) : J q = I q := by
  funext j
  exact h q j (fun z => hq z.1)
/-- the reference reads: at token K, no fault -/
def MS (n : Nat) (t : Nat → Nat) (sd m u : Nat) (Q : QT) (K : Tk) (I : Nat → Nat → Int32) (L : Nat → Nat → Int64) : Prop := TP n t I ∧ I 257 18 = nI sd ∧ sd ≤ 1 ∧ I 257 28 = nI 0 ∧ TkR K I L ∧ RM m u Q (1 - sd) I L
section MREAD
variable {ρ : Nat × (Nat → Int32)} {d : Nat} {c : Nat × Nat} {R : Nat → Nat → Option Nat} {I J : Nat → Nat → Int32} {L : Nat → Nat → Int64} {n : Nat} {t : Nat → Nat} {sd m u : Nat} {Q : QT} {K : Tk} {e : Nat}
theorem FSt_n (h : FSt e I) : ¬ I 257 28 ≤ 0 ∧ ¬ I 257 28 = 0 := by
  obtain ⟨y, b, h1, h2, h3, h4, h5, h6⟩ := h
  rw [h1]
  exact ⟨nI_nle (by omega) (by omega), nI_ne0 (by omega) (by omega)⟩
theorem FSt_to (h : FSt e I) (h1 : J 257 28 = I 257 28) (h2 : J 257 29 = I 257 29) : FSt e J := by
  obtain ⟨y, b, g1, g2, g3⟩ := h
  exact ⟨y, b, h1.trans g1, h2.trans g2, g3⟩
theorem M_wrong_f (h : FSt e I) (v : Int32) : EV ρ (d + 1) 20 0 [.ref 257, .int v] [] (mk c R I L) = some ([], mk c R I L) := by
  rw [bM_wrong_0, if_neg (FSt_n h).1]
theorem M_next_f (h : FSt e I) : EV ρ (d + 1) 18 0 [.ref 257, zU, zU] [] (mk c R I L) = some ([], mk c R I L) := by
  rw [bM_next_0, if_neg (FSt_n h).1]
theorem M_wrong_e (h : I 257 28 = nI 0) (y : Nat) : EV ρ (d + 1) 20 0 [.ref 257, .int (nI y)] [] (mk c R I L) = some ([], mk c R (wr I y) L) := by
  rw [bM_wrong_0, h, if_pos (by decide), bM_wrong_13, bM_wrong_21, z2a, if_neg (by omega)]
  rfl
theorem FSt_w (hK : TkI n t K) (hn : n ≤ 648) (h : TkR K I L) {y : Nat} (h1 : 1 ≤ y) (h2 : y ≤ 4) : FSt (er K y) (wr I y) := by
  have := hK.2.1
  refine ⟨y, K.2.1, ?_, ?_, rfl, h1, h2, by omega⟩
  · unfold wr; rw [z2a, if_neg (by omega), z2_at]
  · unfold wr; rw [z2_at]; exact h.2.1
theorem M_isWord_e (hK : TkI n t K) (h0 : I 257 28 = nI 0) (h : TkR K I L) {i r : Nat} (hi : i < 10) (hr : r = 1020 + i) : EV ρ (d + 1) 21 0 [.ref 257, .ref r] [] (mk c R I L) = some ([.int (bo (kW i K))], mk c R I L) := by
  have hk := hK.1
  have e1 : (Nat.ble 1020 r && Nat.ble r 1029) = true := by
    rw [Bool.and_eq_true, Nat.ble_eq, Nat.ble_eq]
    omega
  rw [bM_isWord_0, h0, if_pos (by decide), h.1]
  by_cases c1 : K.1 = 1
  · have hw := hK.2.2.2.2.1 c1
    rw [c1, if_pos rfl, e1, h.2.2.2.1 c1, hr, ztxt_e i hi]
    show (if _ then _ else _) = _
    by_cases c2 : K.2.2.2 = kwd i
    · rw [if_pos ((lg_cmp_eq _ _).mpr (by rw [c2])), kW_i.mpr ⟨c1, c2⟩]; rfl
    · rw [if_neg (fun z => c2 ((c56_i hw (kwd_w i hi)).mp ((lg_cmp_eq _ _).mp z))), show kW i K = false from by rw [Bool.eq_false_iff]; exact fun z => c2 (kW_i.mp z).2]; rfl
  · rw [if_neg (fun z => c1 ((nI_eq (by omega) (by omega)).mp z)), show kW i K = false from by rw [Bool.eq_false_iff]; exact fun z => c1 (kW_i.mp z).1]; rfl
theorem M_isWord_f (h : FSt e I) (r : Nat) : EV ρ (d + 1) 21 0 [.ref 257, .ref r] [] (mk c R I L) = some ([.int (nI 0)], mk c R I L) := by
  rw [bM_isWord_0, if_neg (FSt_n h).2]
theorem M_isTold_e (hK : TkI n t K) (h0 : I 257 28 = nI 0) (h : TkR K I L) (h1 : K.1 = 1) : EV ρ (d + 2) 22 0 [.ref 257] [] (mk c R I L) = some ([.int (bo (kwi K.2.2.2).isSome)], mk c R I L) := by
  rw [bM_isTold_0]
  by_cases e0 : K.2.2.2 = kwd 0
  · rw [M_isWord_e hK h0 h (i := 0) (by decide) rfl, zci, bM_isTold_6, kW_i.mpr ⟨h1, e0⟩, if_neg (by decide), (kwi_i (by decide)).mpr e0]; rfl
  rw [M_isWord_e hK h0 h (i := 0) (by decide) rfl, zci, bM_isTold_6, show kW 0 K = false from by rw [Bool.eq_false_iff]; exact fun z => e0 (kW_i.mp z).2, if_pos (by decide)]
  by_cases e1 : K.2.2.2 = kwd 1
  · rw [M_isWord_e hK h0 h (i := 1) (by decide) rfl, zci, bM_isTold_15, kW_i.mpr ⟨h1, e1⟩, if_neg (by decide), (kwi_i (by decide)).mpr e1]; rfl
  rw [M_isWord_e hK h0 h (i := 1) (by decide) rfl, zci, bM_isTold_15, show kW 1 K = false from by rw [Bool.eq_false_iff]; exact fun z => e1 (kW_i.mp z).2, if_pos (by decide)]
  by_cases e2 : K.2.2.2 = kwd 2
  · rw [M_isWord_e hK h0 h (i := 2) (by decide) rfl, zci, bM_isTold_24, kW_i.mpr ⟨h1, e2⟩, if_neg (by decide), (kwi_i (by decide)).mpr e2]; rfl
  rw [M_isWord_e hK h0 h (i := 2) (by decide) rfl, zci, bM_isTold_24, show kW 2 K = false from by rw [Bool.eq_false_iff]; exact fun z => e2 (kW_i.mp z).2, if_pos (by decide)]
  by_cases e3 : K.2.2.2 = kwd 3
  · rw [M_isWord_e hK h0 h (i := 3) (by decide) rfl, zci, bM_isTold_33, kW_i.mpr ⟨h1, e3⟩, if_neg (by decide), (kwi_i (by decide)).mpr e3]; rfl
  rw [M_isWord_e hK h0 h (i := 3) (by decide) rfl, zci, bM_isTold_33, show kW 3 K = false from by rw [Bool.eq_false_iff]; exact fun z => e3 (kW_i.mp z).2, if_pos (by decide)]
  by_cases e4 : K.2.2.2 = kwd 4
  · rw [M_isWord_e hK h0 h (i := 4) (by decide) rfl, zci, bM_isTold_42, kW_i.mpr ⟨h1, e4⟩, if_neg (by decide), (kwi_i (by decide)).mpr e4]; rfl
  rw [M_isWord_e hK h0 h (i := 4) (by decide) rfl, zci, bM_isTold_42, show kW 4 K = false from by rw [Bool.eq_false_iff]; exact fun z => e4 (kW_i.mp z).2, if_pos (by decide)]
  by_cases e5 : K.2.2.2 = kwd 5
  · rw [M_isWord_e hK h0 h (i := 5) (by decide) rfl, zci, bM_isTold_53, kW_i.mpr ⟨h1, e5⟩, if_neg (by decide), (kwi_i (by decide)).mpr e5]; rfl
  rw [M_isWord_e hK h0 h (i := 5) (by decide) rfl, zci, bM_isTold_53, show kW 5 K = false from by rw [Bool.eq_false_iff]; exact fun z => e5 (kW_i.mp z).2, if_pos (by decide)]
  by_cases e6 : K.2.2.2 = kwd 6
  · rw [M_isWord_e hK h0 h (i := 6) (by decide) rfl, zci, bM_isTold_62, kW_i.mpr ⟨h1, e6⟩, if_neg (by decide), (kwi_i (by decide)).mpr e6]; rfl
  rw [M_isWord_e hK h0 h (i := 6) (by decide) rfl, zci, bM_isTold_62, show kW 6 K = false from by rw [Bool.eq_false_iff]; exact fun z => e6 (kW_i.mp z).2, if_pos (by decide)]
  by_cases e7 : K.2.2.2 = kwd 7
  · rw [M_isWord_e hK h0 h (i := 7) (by decide) rfl, zci, bM_isTold_71, kW_i.mpr ⟨h1, e7⟩, if_neg (by decide), (kwi_i (by decide)).mpr e7]; rfl
  rw [M_isWord_e hK h0 h (i := 7) (by decide) rfl, zci, bM_isTold_71, show kW 7 K = false from by rw [Bool.eq_false_iff]; exact fun z => e7 (kW_i.mp z).2, if_pos (by decide)]
  by_cases e8 : K.2.2.2 = kwd 8
  · rw [M_isWord_e hK h0 h (i := 8) (by decide) rfl, zci, bM_isTold_80, kW_i.mpr ⟨h1, e8⟩, if_neg (by decide), (kwi_i (by decide)).mpr e8]; rfl
  rw [M_isWord_e hK h0 h (i := 8) (by decide) rfl, zci, bM_isTold_80, show kW 8 K = false from by rw [Bool.eq_false_iff]; exact fun z => e8 (kW_i.mp z).2, if_pos (by decide)]
  by_cases e9 : K.2.2.2 = kwd 9
  · rw [M_isWord_e hK h0 h (i := 9) (by decide) rfl, zci, bM_isTold_89, kW_i.mpr ⟨h1, e9⟩, if_neg (by decide), (kwi_i (by decide)).mpr e9]; rfl
  rw [M_isWord_e hK h0 h (i := 9) (by decide) rfl, zci, bM_isTold_89, show kW 9 K = false from by rw [Bool.eq_false_iff]; exact fun z => e9 (kW_i.mp z).2, if_pos (by decide)]
  unfold kwi
  rw [if_neg e0, if_neg e1, if_neg e2, if_neg e3, if_neg e4, if_neg e5, if_neg e6, if_neg e7, if_neg e8, if_neg e9]
  rfl
theorem stw_i {z : Nat} (h1 : K.1 = 1) (hz : z ≤ 4) (h : K.2.2.2 = kwd (z + 5)) : stw K = some z := by
  unfold stw
  rw [if_pos h1, (kwi_i (i := z + 5) (by omega)).mpr h]
  show (if 5 ≤ z + 5 then some (z + 5 - 5) else none) = some z
  rw [if_pos (by omega)]
  rfl
theorem M_stepWord_e (hK : TkI n t K) (h0 : I 257 28 = nI 0) (h : TkR K I L) : EV ρ (d + 2) 30 0 [.ref 257] [] (mk c R I L) = some ([.int (eO (stw K))], mk c R I L) := by
  rw [bM_stepWord_0]
  have hnk : ∀ i, ¬ (K.1 = 1 ∧ K.2.2.2 = kwd i) → kW i K = false := fun i hi => by rw [Bool.eq_false_iff]; exact fun z => hi (kW_i.mp z)
  by_cases e0 : K.1 = 1 ∧ K.2.2.2 = kwd 5
  · rw [M_isWord_e hK h0 h (i := 5) (by decide) rfl, zci, bM_stepWord_6, kW_i.mpr e0, if_neg (by decide), stw_i (z := 0) e0.1 (by decide) e0.2]; rfl
  rw [M_isWord_e hK h0 h (i := 5) (by decide) rfl, zci, bM_stepWord_6, hnk 5 e0, if_pos (by decide)]
  by_cases e1 : K.1 = 1 ∧ K.2.2.2 = kwd 6
  · rw [M_isWord_e hK h0 h (i := 6) (by decide) rfl, zci, bM_stepWord_19, kW_i.mpr e1, if_neg (by decide), stw_i (z := 1) e1.1 (by decide) e1.2]; rfl
  rw [M_isWord_e hK h0 h (i := 6) (by decide) rfl, zci, bM_stepWord_19, hnk 6 e1, if_pos (by decide)]
  by_cases e2 : K.1 = 1 ∧ K.2.2.2 = kwd 7
  · rw [M_isWord_e hK h0 h (i := 7) (by decide) rfl, zci, bM_stepWord_32, kW_i.mpr e2, if_neg (by decide), stw_i (z := 2) e2.1 (by decide) e2.2]; rfl
  rw [M_isWord_e hK h0 h (i := 7) (by decide) rfl, zci, bM_stepWord_32, hnk 7 e2, if_pos (by decide)]
  by_cases e3 : K.1 = 1 ∧ K.2.2.2 = kwd 8
  · rw [M_isWord_e hK h0 h (i := 8) (by decide) rfl, zci, bM_stepWord_45, kW_i.mpr e3, if_neg (by decide), stw_i (z := 3) e3.1 (by decide) e3.2]; rfl
  rw [M_isWord_e hK h0 h (i := 8) (by decide) rfl, zci, bM_stepWord_45, hnk 8 e3, if_pos (by decide)]
  by_cases e4 : K.1 = 1 ∧ K.2.2.2 = kwd 9
  · rw [M_isWord_e hK h0 h (i := 9) (by decide) rfl, zci, bM_stepWord_58, kW_i.mpr e4, if_neg (by decide), stw_i (z := 4) e4.1 (by decide) e4.2]; rfl
  rw [M_isWord_e hK h0 h (i := 9) (by decide) rfl, zci, bM_stepWord_58, hnk 9 e4, if_pos (by decide)]
  have hs : stw K = none := by
    cases es : stw K with
    | none => rfl
    | some z =>
      obtain ⟨g1, g2, g3⟩ := stw_le es
      have g4 := (kwi_i (by omega)).mp g3
      have hz : z = 0 ∨ z = 1 ∨ z = 2 ∨ z = 3 ∨ z = 4 := by omega
      rcases hz with rfl | rfl | rfl | rfl | rfl
      · exact absurd ⟨g2, g4⟩ e0
      · exact absurd ⟨g2, g4⟩ e1
      · exact absurd ⟨g2, g4⟩ e2
      · exact absurd ⟨g2, g4⟩ e3
      · exact absurd ⟨g2, g4⟩ e4
  rw [hs]
  rfl
theorem M_freeWord_e (hK : TkI n t K) (h0 : I 257 28 = nI 0) (h : TkR K I L) : EV ρ (d + 3) 23 0 [.ref 257] [] (mk c R I L) = some ([.long (L 257 26)], mk c R (if fre K = true then I else wr I 1) L) := by
  have hk := hK.1
  rw [bM_freeWord_0, h0, if_pos (by decide), h.1]
  by_cases c1 : K.1 = 1
  · rw [c1, if_pos rfl, M_isTold_e hK h0 h c1, zci, bM_freeWord_19]
    unfold fre
    rw [c1]
    cases kwi K.2.2.2 with
    | none => rw [if_pos (by decide), bM_freeWord_27]; rfl
    | some z => rw [if_neg (show ¬ bo (some z).isSome = 0 from by show ¬ bo true = 0; decide), M_wrong_e h0, zcv, bM_freeWord_27]; rfl
  · rw [if_neg (fun z => c1 ((nI_eq (by omega) (by omega)).mp z)), M_wrong_e h0, zcv, bM_freeWord_27, if_neg (fun z => c1 (fre_i z).1)]
theorem M_freeWord_f (h : FSt e I) : EV ρ (d + 3) 23 0 [.ref 257] [] (mk c R I L) = some ([.long (L 257 26)], mk c R I L) := by
  rw [bM_freeWord_0, if_neg (FSt_n h).2, bM_freeWord_27]
theorem fnd_i {f : Nat → List Nat} {k m : Nat} {w : List Nat} (hk : k < m) (h : f k = w) (hj : ∀ j, j < k → f j ≠ w) : fnd f m w = some k := by
  unfold fnd
  rw [List.find?_range_eq_some]
  exact ⟨beq_iff_eq.mpr h, List.mem_range.mpr hk, fun j hj' => by simp [hj j hj']⟩
theorem fnd_n {f : Nat → List Nat} {m : Nat} {w : List Nat} (hj : ∀ j, j < m → f j ≠ w) : fnd f m w = none := by
  unfold fnd
  rw [List.find?_range_eq_none]
  exact fun j hj' => by simp [hj j hj']
theorem M_found_l {q N a m : Nat} {f : Nat → List Nat} {w : List Nat} (hq : oka q 21 N = true) (hN : N < 2 ^ 20) (ha : a + m ≤ N) (hf : ∀ k, k < m → L q (a + k) = c56 (f k) ∧ wrd (f k)) (hw : wrd w) : ∀ (j k : Nat), m - k = j → k ≤ m → (∀ i, i < k → f i ≠ w) → EV ρ (d + 1) 24 3 [zU, .ref q, .int (nI a), .int (nI m), .long (c56 w), zU, .int (nI k)] [] (mk c R I L) = some ([.int (eO (fnd f m w))], mk c R I L) := by
  intro j
  induction j with
  | zero =>
    intro k hj hk hi
    have e : k = m := by omega
    subst e
    rw [bM_found_3, if_pos (nI_le (Nat.le_refl _) (by omega)), fnd_n hi]
    rfl
  | succ j ih =>
    intro k hj hk hi
    rw [bM_found_3, if_neg (nI_ge (by omega) (by omega)), nI_add, zar hq, zidx_n (by omega) (by omega), (hf k (by omega)).1]
    by_cases e : f k = w
    · rw [if_pos ((lg_cmp_eq _ _).mpr (by rw [e])), fnd_i (by omega) e hi]; rfl
    · rw [if_neg (fun z => e ((c56_i (hf k (by omega)).2 hw).mp ((lg_cmp_eq _ _).mp z))), nI_add]
      refine ih (k + 1) (by omega) (by omega) (fun i h2 => ?_)
      by_cases ei : i = k
      · rw [ei]; exact e
      · exact hi i (by omega)
theorem M_found_e {q N a m : Nat} {f : Nat → List Nat} {w : List Nat} (hq : oka q 21 N = true) (hN : N < 2 ^ 20) (ha : a + m ≤ N) (hf : ∀ k, k < m → L q (a + k) = c56 (f k) ∧ wrd (f k)) (hw : wrd w) : EV ρ (d + 1) 24 0 [.ref 257, .ref q, .int (nI a), .int (nI m), .long (c56 w), zU, zU] [] (mk c R I L) = some ([.int (eO (fnd f m w))], mk c R I L) := by
  rw [bM_found_0]
  exact M_found_l hq hN ha hf hw m 0 rfl (Nat.zero_le _) (fun i hi => absurd hi (Nat.not_lt_zero _))
theorem fnd_b {f : Nat → List Nat} {m : Nat} {w : List Nat} (hm : m < 2 ^ 31) : ∀ k, fnd f m w = some k → k < 2 ^ 31 := fun k h => by
  have := (fnd_s h).1
  omega
theorem MS_next (hK : TkI n t K) (h : MS n t sd m u Q K I L) (h5 : K.1 ≠ 5) : ∃ J L', EV ρ (d + 3) 18 0 [.ref 257, zU, zU] [] (mk c R I L) = some ([], mk c R J L') ∧ MS n t sd m u Q (nxK n t K) J L' ∧ FS7 I J ∧ FS7 L L' := by
  obtain ⟨a1, a2, a3, a4, a5, a6⟩ := h
  obtain ⟨J, L', b1, b2, b3, b4⟩ := M_next_e (ρ := ρ) (d := d) (c := c) (R := R) (L := L) a1 hK.2.2.1 (a5.2.2.1 h5) a4
  exact ⟨J, L', b1, ⟨TP_to a1 b3, (b3 _ _ (by omega)).trans a2, a3, (b3 _ _ (by omega)).trans a4, b2, RM_to a6 (fun q h1 h2 => FS7_c b3 (by omega)) (fun q h1 h2 => FS7_c b4 (by omega))⟩, b3, b4⟩
/-- a new name -/
theorem M_newName_e (hK : TkI n t K) (hN : QN Q) (h : MS n t sd m u Q K I L) : ∃ w J L', EV ρ (d + 4) 25 0 [.ref 257, zU, zU, zU] [] (mk c R I L) = some ([.long w], mk c R J L') ∧ FPM (1 - sd) I J ∧ FPM (1 - sd) L L' ∧ (match yNew Q K with
    | none => w = c56 K.2.2.2 ∧ MS n t sd m u Q (nxK n t K) J L'
    | some e => FSt e J) := by
  have h' := h
  obtain ⟨a1, a2, a3, a4, a5, ⟨r1, r2, r3⟩, ⟨s1, s2, s3⟩, a7⟩ := h
  have hn := a1.2.1
  rw [bM_newName_0, M_freeWord_e hK a4 a5, zcl, bM_newName_4]
  by_cases c1 : fre K = true
  · have hk1 := (fre_i c1).1
    have hw := hK.2.2.2.2.1 hk1
    rw [if_pos c1, a4, if_pos (by decide), a2, pk_sub (by omega), pk_mul, pk_mul, zidx_n (by omega) (by decide), r1, a5.2.2.2.1 hk1, M_found_e (q := 260) (N := 24) (f := Q.2.2.2.2.1) rfl (by decide) (by have := hN.1; omega) (fun k hk => ⟨s1 k hk, hN.2.2.2.1 k hk⟩) hw, zci, bM_newName_40]
    have hbad : ∀ J, J = I → yNew Q K = some (er K 3) → ∃ w J2 L', zcV (EV ρ (d + 3) 20 0 [.ref 257, .int (nI 3)] [] (mk c R J L)) (fun s1 => EV ρ (d + 3 + 1) 25 74 [.ref 257, .long (c56 K.2.2.2), zU, zU] [] s1) = some ([.long w], mk c R J2 L') ∧ FPM (1 - sd) I J2 ∧ FPM (1 - sd) L L' ∧ (match yNew Q K with
        | none => w = c56 K.2.2.2 ∧ MS n t sd m u Q (nxK n t K) J2 L'
        | some e => FSt e J2) := fun J hJ hy => by
      subst hJ
      have hF := FSt_w hK hn a5 (y := 3) (by decide) (by decide)
      rw [M_wrong_e (d := d + 2) a4, zcv, bM_newName_74, M_next_f (d := d + 2) hF, zcv, bM_newName_78, hy]
      exact ⟨_, _, _, rfl, FPM_w FPM_r, FPM_r, hF⟩
    cases e1 : fnd Q.2.2.2.2.1 Q.1.1 K.2.2.2 with
    | some z =>
      rw [if_pos (show (0 : Int32) ≤ eO (some z) from nI_pos' (fnd_b (by have := hN.1; omega) z e1))]
      exact hbad I rfl (by unfold yNew; rw [if_pos c1, if_neg (fun y => by rw [e1] at y; cases y.1)])
    | none =>
      rw [if_neg (by decide), pk_mul, nI_add, zidx_n (by omega) (by decide), pk_mul, r2, M_found_e (q := 266) (N := 16) (f := Q.2.2.2.2.2.2.1) rfl (by decide) (by have := hN.2.1; omega) (fun k hk => ⟨s2 k hk, hN.2.2.2.2.1 k hk⟩) hw, zci, bM_newName_66]
      cases e2 : fnd Q.2.2.2.2.2.2.1 Q.1.2.1 K.2.2.2 with
      | some z =>
        rw [if_neg (show ¬ eO (some z) < 0 from nI_pos (fnd_b (by have := hN.2.1; omega) z e2))]
        exact hbad I rfl (by unfold yNew; rw [if_pos c1, if_neg (fun y => by rw [e2] at y; cases y.2)])
      | none =>
        rw [if_pos (by decide), bM_newName_74]
        obtain ⟨J, L', b1, b2, b3, b4⟩ := MS_next (ρ := ρ) (d := d) (c := c) (R := R) hK h' (by omega)
        rw [b1, zcv, bM_newName_78, show yNew Q K = none from by unfold yNew; rw [if_pos c1, if_pos ⟨e1, e2⟩]]
        exact ⟨_, J, L', rfl, FPM_7 b3, FPM_7 b4, rfl, b2⟩
  · have hF := FSt_w hK hn a5 (y := 1) (by decide) (by decide)
    rw [if_neg c1, if_neg (FSt_n hF).2, bM_newName_74, M_next_f (d := d + 2) hF, zcv, bM_newName_78, show yNew Q K = some (er K 1) from by unfold yNew; rw [if_neg c1]]
    exact ⟨_, _, _, rfl, FPM_w FPM_r, FPM_r, hF⟩
end MREAD
