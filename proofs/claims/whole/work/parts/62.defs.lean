-- THE PURE STATE: st by re ca sy row bnd lk co ln gv log pool ld tk cn, as a tree of pairs; the plan: nd nv ns pa ne sp sc rk
abbrev TT : Type := (((((Nat → Nat) × (Nat → Nat)) × ((Nat → Int32) × (Nat → Int32))) × (((Nat → Bool) × (List Nat)) × ((List Nat) × (Nat → Int32)))) × ((((Nat → Int32) × (Nat → Option Nat)) × ((Nat → Option Nat) × (List (Int32 × Int32 × Int32)))) × (((Int32) × (Int32)) × ((Nat → List (Nat × Nat)) × (Nat)))))
abbrev u_st (T : TT) (v : Nat → Nat) : TT := ((((v, T.1.1.1.2), (T.1.1.2.1, T.1.1.2.2)), ((T.1.2.1.1, T.1.2.1.2), (T.1.2.2.1, T.1.2.2.2))), (((T.2.1.1.1, T.2.1.1.2), (T.2.1.2.1, T.2.1.2.2)), ((T.2.2.1.1, T.2.2.1.2), (T.2.2.2.1, T.2.2.2.2))))
abbrev u_by (T : TT) (v : Nat → Nat) : TT := ((((T.1.1.1.1, v), (T.1.1.2.1, T.1.1.2.2)), ((T.1.2.1.1, T.1.2.1.2), (T.1.2.2.1, T.1.2.2.2))), (((T.2.1.1.1, T.2.1.1.2), (T.2.1.2.1, T.2.1.2.2)), ((T.2.2.1.1, T.2.2.1.2), (T.2.2.2.1, T.2.2.2.2))))
abbrev u_re (T : TT) (v : Nat → Int32) : TT := ((((T.1.1.1.1, T.1.1.1.2), (v, T.1.1.2.2)), ((T.1.2.1.1, T.1.2.1.2), (T.1.2.2.1, T.1.2.2.2))), (((T.2.1.1.1, T.2.1.1.2), (T.2.1.2.1, T.2.1.2.2)), ((T.2.2.1.1, T.2.2.1.2), (T.2.2.2.1, T.2.2.2.2))))
abbrev u_ca (T : TT) (v : Nat → Int32) : TT := ((((T.1.1.1.1, T.1.1.1.2), (T.1.1.2.1, v)), ((T.1.2.1.1, T.1.2.1.2), (T.1.2.2.1, T.1.2.2.2))), (((T.2.1.1.1, T.2.1.1.2), (T.2.1.2.1, T.2.1.2.2)), ((T.2.2.1.1, T.2.2.1.2), (T.2.2.2.1, T.2.2.2.2))))
abbrev u_sy (T : TT) (v : Nat → Bool) : TT := ((((T.1.1.1.1, T.1.1.1.2), (T.1.1.2.1, T.1.1.2.2)), ((v, T.1.2.1.2), (T.1.2.2.1, T.1.2.2.2))), (((T.2.1.1.1, T.2.1.1.2), (T.2.1.2.1, T.2.1.2.2)), ((T.2.2.1.1, T.2.2.1.2), (T.2.2.2.1, T.2.2.2.2))))
abbrev u_row (T : TT) (v : List Nat) : TT := ((((T.1.1.1.1, T.1.1.1.2), (T.1.1.2.1, T.1.1.2.2)), ((T.1.2.1.1, v), (T.1.2.2.1, T.1.2.2.2))), (((T.2.1.1.1, T.2.1.1.2), (T.2.1.2.1, T.2.1.2.2)), ((T.2.2.1.1, T.2.2.1.2), (T.2.2.2.1, T.2.2.2.2))))
abbrev u_bnd (T : TT) (v : List Nat) : TT := ((((T.1.1.1.1, T.1.1.1.2), (T.1.1.2.1, T.1.1.2.2)), ((T.1.2.1.1, T.1.2.1.2), (v, T.1.2.2.2))), (((T.2.1.1.1, T.2.1.1.2), (T.2.1.2.1, T.2.1.2.2)), ((T.2.2.1.1, T.2.2.1.2), (T.2.2.2.1, T.2.2.2.2))))
abbrev u_lk (T : TT) (v : Nat → Int32) : TT := ((((T.1.1.1.1, T.1.1.1.2), (T.1.1.2.1, T.1.1.2.2)), ((T.1.2.1.1, T.1.2.1.2), (T.1.2.2.1, v))), (((T.2.1.1.1, T.2.1.1.2), (T.2.1.2.1, T.2.1.2.2)), ((T.2.2.1.1, T.2.2.1.2), (T.2.2.2.1, T.2.2.2.2))))
abbrev u_co (T : TT) (v : Nat → Int32) : TT := ((((T.1.1.1.1, T.1.1.1.2), (T.1.1.2.1, T.1.1.2.2)), ((T.1.2.1.1, T.1.2.1.2), (T.1.2.2.1, T.1.2.2.2))), (((v, T.2.1.1.2), (T.2.1.2.1, T.2.1.2.2)), ((T.2.2.1.1, T.2.2.1.2), (T.2.2.2.1, T.2.2.2.2))))
abbrev u_ln (T : TT) (v : Nat → Option Nat) : TT := ((((T.1.1.1.1, T.1.1.1.2), (T.1.1.2.1, T.1.1.2.2)), ((T.1.2.1.1, T.1.2.1.2), (T.1.2.2.1, T.1.2.2.2))), (((T.2.1.1.1, v), (T.2.1.2.1, T.2.1.2.2)), ((T.2.2.1.1, T.2.2.1.2), (T.2.2.2.1, T.2.2.2.2))))
abbrev u_gv (T : TT) (v : Nat → Option Nat) : TT := ((((T.1.1.1.1, T.1.1.1.2), (T.1.1.2.1, T.1.1.2.2)), ((T.1.2.1.1, T.1.2.1.2), (T.1.2.2.1, T.1.2.2.2))), (((T.2.1.1.1, T.2.1.1.2), (v, T.2.1.2.2)), ((T.2.2.1.1, T.2.2.1.2), (T.2.2.2.1, T.2.2.2.2))))
abbrev u_log (T : TT) (v : List (Int32 × Int32 × Int32)) : TT := ((((T.1.1.1.1, T.1.1.1.2), (T.1.1.2.1, T.1.1.2.2)), ((T.1.2.1.1, T.1.2.1.2), (T.1.2.2.1, T.1.2.2.2))), (((T.2.1.1.1, T.2.1.1.2), (T.2.1.2.1, v)), ((T.2.2.1.1, T.2.2.1.2), (T.2.2.2.1, T.2.2.2.2))))
abbrev u_pool (T : TT) (v : Int32) : TT := ((((T.1.1.1.1, T.1.1.1.2), (T.1.1.2.1, T.1.1.2.2)), ((T.1.2.1.1, T.1.2.1.2), (T.1.2.2.1, T.1.2.2.2))), (((T.2.1.1.1, T.2.1.1.2), (T.2.1.2.1, T.2.1.2.2)), ((v, T.2.2.1.2), (T.2.2.2.1, T.2.2.2.2))))
abbrev u_ld (T : TT) (v : Int32) : TT := ((((T.1.1.1.1, T.1.1.1.2), (T.1.1.2.1, T.1.1.2.2)), ((T.1.2.1.1, T.1.2.1.2), (T.1.2.2.1, T.1.2.2.2))), (((T.2.1.1.1, T.2.1.1.2), (T.2.1.2.1, T.2.1.2.2)), ((T.2.2.1.1, v), (T.2.2.2.1, T.2.2.2.2))))
abbrev u_tk (T : TT) (v : Nat → List (Nat × Nat)) : TT := ((((T.1.1.1.1, T.1.1.1.2), (T.1.1.2.1, T.1.1.2.2)), ((T.1.2.1.1, T.1.2.1.2), (T.1.2.2.1, T.1.2.2.2))), (((T.2.1.1.1, T.2.1.1.2), (T.2.1.2.1, T.2.1.2.2)), ((T.2.2.1.1, T.2.2.1.2), (v, T.2.2.2.2))))
abbrev u_cn (T : TT) (v : Nat) : TT := ((((T.1.1.1.1, T.1.1.1.2), (T.1.1.2.1, T.1.1.2.2)), ((T.1.2.1.1, T.1.2.1.2), (T.1.2.2.1, T.1.2.2.2))), (((T.2.1.1.1, T.2.1.1.2), (T.2.1.2.1, T.2.1.2.2)), ((T.2.2.1.1, T.2.2.1.2), (T.2.2.2.1, v))))
abbrev PT : Type := (Nat × Nat × Nat) × (Nat → Option Nat) × (Nat → List Nat) × (Nat → List (Nat × Nat)) × (Nat → Nat → Option Nat) × (Nat → List Nat)
/-- v comes ahead of w for x -/
def ahead (P : PT) (x v w : Nat) : Prop := ∃ a b, P.2.2.2.2.1 v x = some a ∧ P.2.2.2.2.1 w x = some b ∧ (b < a ∨ b = a ∧ v < w)
/-- a plan as the text tells it -/
def PV (P : PT) : Prop := P.1.1 ≤ 12 ∧ P.1.2.1 ≤ 8 ∧ P.1.2.2 ≤ 8 ∧ (∀ x, x < P.1.1 → ∀ y, P.2.1 x = some y → y < x) ∧ (∀ x, x < P.1.1 → (P.2.2.1 x).length ≤ 3 ∧ ∀ z ∈ P.2.2.1 x, z < P.1.2.2) ∧
  (∀ v, v < P.1.2.1 → (P.2.2.2.1 v).length ≤ 6 ∧ ∀ z ∈ P.2.2.2.1 v, z.1 ≤ 4 ∧ (z.1 = 1 → z.2 < 16) ∧ (z.1 = 2 → z.2 < P.1.2.2) ∧ (z.1 = 3 → z.2 < P.1.2.2) ∧ z.2 ≤ 99) ∧
  (∀ v x a, P.2.2.2.2.1 v x = some a → a ≤ 8) ∧ (∀ x, x < P.1.1 → (P.2.2.2.2.2 x).Pairwise (ahead P x) ∧ ∀ v, v ∈ P.2.2.2.2.2 x ↔ v < P.1.2.1 ∧ P.2.2.2.2.1 v x ≠ none)
/-- the reference's score -/
def MSc (P : PT) (sd : Nat) (I : Nat → Nat → Int32) : Prop := ∀ (ρ : Nat × (Nat → Int32)) (d : Nat) (c : Nat × Nat) (R : Nat → Nat → Option Nat) (L : Nat → Nat → Int64) (J : Nat → Nat → Int32), (∀ q, q ∈ [261, 262, 267, 268, 269] → J q = I q) → J 257 18 = nI sd → ∀ v x, v < P.1.2.1 → x < P.1.1 →
  EV ρ (d + 4) 39 0 [.ref 257, .int (nI v), .int (nI x), zU, zU, zU, zU, zU] [] (mk c R J L) = some ([.int (eO (P.2.2.2.2.1 v x))], mk c R J L)
/-- the reference's board -/
def PM (P : PT) (sd : Nat) (I : Nat → Nat → Int32) : Prop := sd ≤ 1 ∧ I 257 18 = nI sd ∧ I 259 (3 * sd) = nI P.1.1 ∧ I 259 (3 * sd + 1) = nI P.1.2.1 ∧ I 259 (3 * sd + 2) = nI P.1.2.2 ∧
  (∀ x, x < P.1.1 → I 263 (12 * sd + x) = eO (P.2.1 x) ∧ I 264 (12 * sd + x) = nI (P.2.2.1 x).length ∧ ∀ k z, (P.2.2.1 x)[k]? = some z → I 265 (3 * (12 * sd + x) + k) = nI z) ∧
  (∀ v, v < P.1.2.1 → I 270 (8 * sd + v) = nI (P.2.2.2.1 v).length ∧ ∀ k z, (P.2.2.2.1 v)[k]? = some z → I 271 (6 * (8 * sd + v) + k) = nI z.1 ∧ I 272 (6 * (8 * sd + v) + k) = nI z.2) ∧ MSc P sd I
def bdM : List Nat := [259, 261, 262, 263, 264, 265, 267, 268, 269, 270, 271, 272]
theorem PM_to {P : PT} {sd : Nat} {I J : Nat → Nat → Int32} (h : PM P sd I) (hJ : ∀ q, q ∈ bdM → J q = I q) (h1 : J 257 18 = I 257 18) : PM P sd J := by
  obtain ⟨h0, a1, a2, a3, a4, a5, a6, a7⟩ := h
  refine ⟨h0, h1.trans a1, ?_, ?_, ?_, fun x hx => ?_, fun v hv => ?_, fun ρ d c R L K hK => a7 ρ d c R L K (fun q hq => (hK q hq).trans (hJ q ?_))⟩
  · rw [hJ 259 (by decide)]; exact a2
  · rw [hJ 259 (by decide)]; exact a3
  · rw [hJ 259 (by decide)]; exact a4
  · rw [hJ 263 (by decide), hJ 264 (by decide), hJ 265 (by decide)]; exact a5 x hx
  · rw [hJ 270 (by decide), hJ 271 (by decide), hJ 272 (by decide)]; exact a6 v hv
  · have : ∀ q, q ∈ [261, 262, 267, 268, 269] → q ∈ bdM := by decide
    exact this q hq
theorem PM_up {P : PT} {sd : Nat} {I : Nat → Nat → Int32} (s : Nat → Int32) (h : PM P sd I) : PM P sd (va_up I 274 s) :=
  PM_to h (fun q hq => va_up_ne _ _ (by have : ∀ q, q ∈ bdM → q ≠ 274 := by decide
                                        exact this q hq)) (by rw [va_up_ne _ _ (by decide)])
theorem PM_z2 {P : PT} {sd : Nat} {I : Nat → Nat → Int32} {j : Nat} {v : Int32} (hj : j ≠ 18) (h : PM P sd I) : PM P sd (z2 I 257 j v) :=
  PM_to h (fun q hq => z2_ne (by have : ∀ q, q ∈ bdM → q ≠ 257 := by decide
                                 exact this q hq)) (by rw [z2a, if_neg (by omega)])
def pbit (o : Option Nat) : Int32 := match o with
  | none => nI 0
  | some k => nI 1 <<< (nI k &&& 31)
/-- of the steps those of a kind -/
def ofk (k : Nat) (l : List (Nat × Nat)) : List Nat := (l.filter (fun z => z.1 = k)).map (·.2)
/-- the component's plan -/
def PC (P : PT) (p : Nat) (R : Nat → Nat → Option Nat) (I : Nat → Nat → Int32) : Prop := isP p ∧ I p 0 = nI P.1.1 ∧ I p 1 = nI P.1.2.1 ∧ I p 2 = nI P.1.2.2 ∧
  (∀ x, x < P.1.1 → I (p + 4) x = eO (P.2.1 x) ∧ I (p + 5) x = pbit (P.2.1 x) ∧ I (p + 6) x = nI (P.2.2.1 x).length ∧ (∀ k z, (P.2.2.1 x)[k]? = some z → I (p + 7) (3 * x + k) = nI z) ∧ I (p + 8) x = bitsL (P.2.2.1 x) ∧ I (p + 37) x = nI (P.2.2.2.2.2 x).length ∧ (∀ k z, (P.2.2.2.2.2 x)[k]? = some z → I (p + 25 + x) k = nI z)) ∧
  (∀ v, v < P.1.2.1 → I (p + 10) v = nI (P.2.2.2.1 v).length ∧ (∀ k z, (P.2.2.2.1 v)[k]? = some z → R (p + 11) (6 * v + k) = some (1005 + z.1) ∧ I (p + 12) (6 * v + k) = nI z.2) ∧ I (p + 13) v = bitsL (ofk 2 (P.2.2.2.1 v)) ∧ I (p + 14) v = bitsL (ofk 3 (P.2.2.2.1 v)) ∧ ∀ x, x < P.1.1 → I (p + 16 + v) x = eO (P.2.2.2.2.1 v x))
theorem PC_to {P : PT} {p : Nat} {R : Nat → Nat → Option Nat} {I J : Nat → Nat → Int32} (h : PC P p R I) (hP : PV P) (hJ : ∀ q, p ≤ q → q ≤ p + 37 → J q = I q) : PC P p R J := by
  obtain ⟨h0, a1, a2, a3, a4, a5⟩ := h
  have h12 := hP.1
  have h8 := hP.2.1
  refine ⟨h0, ?_, ?_, ?_, fun x hx => ?_, fun v hv => ?_⟩
  · rw [hJ p (by omega) (by omega)]; exact a1
  · rw [hJ p (by omega) (by omega)]; exact a2
  · rw [hJ p (by omega) (by omega)]; exact a3
  · rw [hJ (p + 4) (by omega) (by omega), hJ (p + 5) (by omega) (by omega), hJ (p + 6) (by omega) (by omega), hJ (p + 7) (by omega) (by omega), hJ (p + 8) (by omega) (by omega), hJ (p + 37) (by omega) (by omega), hJ (p + 25 + x) (by omega) (by omega)]
    exact a4 x hx
  · rw [hJ (p + 10) (by omega) (by omega), hJ (p + 12) (by omega) (by omega), hJ (p + 13) (by omega) (by omega), hJ (p + 14) (by omega) (by omega), hJ (p + 16 + v) (by omega) (by omega)]
    exact a5 v hv
/-- what was taken, as the reference notes it -/
def TkM (s : Nat → Int32) (x : Nat) (l : List (Nat × Nat)) : Prop := l.length ≤ 6 ∧ s (108 + x) = nI l.length ∧ ∀ k z, l[k]? = some z → s (120 + 12 * x + 2 * k) = nI z.1 ∧ s (120 + 12 * x + 2 * k + 1) = nI z.2
def RowM (s : Nat → Int32) (l : List Nat) : Prop := s 438 = nI l.length ∧ l.length ≤ 12 ∧ ∀ i v, l[i]? = some v → s (72 + i) = nI v
def LogM (s : Nat → Int32) (l : List (Int32 × Int32 × Int32)) : Prop := s 442 = nI l.length ∧ l.length ≤ 50 ∧ ∀ k e, l[k]? = some e → s (288 + 3 * k) = e.1 ∧ s (289 + 3 * k) = e.2.1 ∧ s (290 + 3 * k) = e.2.2
def StM (s : Nat → Int32) (bnd : List Nat) (cn : Nat) : Prop := s 440 = nI cn ∧ ∃ f : Nat → Nat, (∀ x ∈ bnd, s (60 + x) = nI (f x) ∧ f x ≤ cn) ∧ bnd.Pairwise (fun a b => f a < f b)
/-- the reference's state: st and by; re ca sy lk co; ln gv pool ld; row; log; stamps; taken -/
def MR (T : TT) (s : Nat → Int32) : Prop :=
  (∀ x, x < 12 → s x = nI (T.1.1.1.1 x) ∧ s (12 + x) = (if T.1.1.1.1 x = 3 then nI (T.1.1.1.2 x) else -1)) ∧
  (∀ x, x < 12 → s (24 + x) = T.1.1.2.1 x ∧ s (36 + x) = T.1.1.2.2 x ∧ s (48 + x) = bo (T.1.2.1.1 x) ∧ s (84 + x) = T.1.2.2.2 x ∧ s (96 + x) = T.2.1.1.1 x) ∧
  ((∀ j, j < 16 → s (264 + j) = eO (T.2.1.1.2 j)) ∧ (∀ j, j < 8 → s (280 + j) = eO (T.2.1.2.1 j)) ∧ s 439 = T.2.2.1.1 ∧ s 441 = T.2.2.1.2) ∧
  RowM s T.1.2.1.2 ∧ LogM s T.2.1.2.2 ∧ StM s T.1.2.2.1 T.2.2.2.2 ∧ (∀ x, x < 12 → TkM s x (T.2.2.2.1 x))
def pl (nx k : Nat) : Nat := (nx + 49 - k) % 50
def JouIs (I : Nat → Nat → Int32) (l : List (Int32 × Int32 × Int32)) : Prop := I 8 0 = nI 50 ∧ l.length ≤ 50 ∧ I 8 3 = nI l.length ∧ ∃ nx, nx < 50 ∧ I 8 2 = nI nx ∧ ∀ k e, l[k]? = some e → I 9 (3 * pl nx k) = e.1 ∧ I 9 (3 * pl nx k + 1) = e.2.1 ∧ I 9 (3 * pl nx k + 2) = e.2.2
/-- the component's bench b -/
def CR (b : Nat) (T : TT) (I : Nat → Nat → Int32) : Prop :=
  (∀ x, x < 12 → I (b + 1) x = nI (T.1.1.1.1 x) ∧ (T.1.1.1.1 x = 3 → I (b + 2) x = nI (T.1.1.1.2 x))) ∧
  (∀ x, x < 12 → I (b + 3) x = T.1.1.2.1 x ∧ I (b + 4) x = T.1.1.2.2 x ∧ I (b + 7) x = T.1.2.2.2 x ∧ I (b + 6) x = T.2.1.1.1 x) ∧
  ((∀ j, j < 16 → I (b + 8) j = eO (T.2.1.1.2 j)) ∧ (∀ j, j < 8 → I (b + 9) j = eO (T.2.1.2.1 j)) ∧ I b 15 = T.2.2.1.1 ∧ I b 16 = T.2.2.1.2) ∧
  RowIs I (b + 10) T.1.2.1.2 ∧ RowIs I (b + 14) T.1.2.2.1 ∧ (b = 86 → JouIs I T.2.1.2.2 ∧ ∀ j, j < 32 → bt (I 86 17) j = (decide (j < 12) && T.1.2.1.1 j)) ∧ I 104 0 = nI 0

