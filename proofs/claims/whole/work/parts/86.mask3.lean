-- QUESTIONS in the reference: lacks, gives, waits
section MASK3
variable {ρ : Nat × (Nat → Int32)} {d : Nat} {c : Nat × Nat} {R : Nat → Nat → Option Nat} {I : Nat → Nat → Int32} {L : Nat → Nat → Int64} {P : PT} {sd : Nat} {T : TT}
theorem bits_app (l m : List Nat) : bitsL (l ++ m) = m.foldl (fun a k => a ||| (nI 1 <<< (nI k &&& 31))) (bitsL l) := by
  unfold bitsL
  rw [List.foldl_append]
theorem M_lacksOf_n (h : MX P sd T I) {x : Nat} (hx : x < P.1.1) : ∀ (n k : Nat), k + n = (P.2.2.1 x).length → EV ρ (d + 6) 79 4 [.ref 257, .int (nI x), .int (bitsL ((P.2.2.1 x).take k)), .int (nI k), zU] [] (mk c R I L) = EV ρ (d + 6) 79 53 [.ref 257, zU, .int (bitsL (P.2.2.1 x)), .int (eO ((lnL P T x)[0]?)), .int (nI 0)] [] (mk c R I L) := by
  have hV := h.1
  have h12 := hV.1
  have hsd := h.2.1.1
  have h3 := (hV.2.2.2.2.1 x hx).1
  intro n
  induction n with
  | zero =>
    intro k hk
    rw [List.take_of_length_le (by omega), bM_lacksOf_4, M_dev_e h.2.1, zci, bM_lacksOf_14, zidx_n (by omega) (by decide), (h.2.1.2.2.2.2.2.1 x hx).2.1, if_pos (nI_le (by omega) (by omega)), M_inLine_e h hx (by decide), zci, bM_lacksOf_49]
  | succ n ih =>
    intro k hk
    have hk2 : k < (P.2.2.1 x).length := by omega
    rw [bM_lacksOf_4, M_dev_e h.2.1, zci, bM_lacksOf_14, zidx_n (by omega) (by decide), (h.2.1.2.2.2.2.2.1 x hx).2.1, if_neg (nI_ge hk2 (by omega)), M_dev_e h.2.1, zci, bM_lacksOf_30, pk_mul, nI_add, zidx_n (by omega) (by decide), PM_ne h.2.1 hx (List.getElem?_eq_getElem hk2), nI_add, bits_snoc]
    have e : (P.2.2.1 x).take k ++ [(P.2.2.1 x)[k]] = (P.2.2.1 x).take (k + 1) := by rw [List.take_succ, List.getElem?_eq_getElem hk2]; rfl
    rw [e]
    exact ih (k + 1) (by omega)
theorem M_lacksOf_s (h : MX P sd T I) {v : Nat} (hv : v < P.1.2.1) (l0 : List Nat) : ∀ (n k : Nat), k + n = (P.2.2.2.1 v).length → EV ρ (d + 6) 79 53 [.ref 257, zU, .int (bitsL (l0 ++ ofk 2 ((P.2.2.2.1 v).take k))), .int (nI v), .int (nI k)] [] (mk c R I L) = EV ρ (d + 6) 79 122 [.ref 257, zU, .int (bitsL (l0 ++ ofk 2 (P.2.2.2.1 v))), zU, .int (nI 0)] [] (mk c R I L) := by
  have hV := h.1
  have h8 := hV.2.1
  have hsd := h.2.1.1
  have h6 := (hV.2.2.2.2.2.1 v hv).1
  intro n
  induction n with
  | zero =>
    intro k hk
    rw [List.take_of_length_le (by omega), bM_lacksOf_53, if_neg (nI_pos (by omega)), M_drv_e h.2.1, zci, bM_lacksOf_68, zidx_n (by omega) (by decide), (h.2.1.2.2.2.2.2.2.1 v hv).1, if_pos (nI_le (by omega) (by omega))]
  | succ n ih =>
    intro k hk
    have hk2 : k < (P.2.2.2.1 v).length := by omega
    have hm := (h.2.1.2.2.2.2.2.2.1 v hv).2 k _ (List.getElem?_eq_getElem hk2)
    have hz := (sp_oks hV hv _ (List.getElem_mem hk2)).1
    have et : (P.2.2.2.1 v).take (k + 1) = (P.2.2.2.1 v).take k ++ [(P.2.2.2.1 v)[k]] := by rw [List.take_succ, List.getElem?_eq_getElem hk2]; rfl
    rw [bM_lacksOf_53, if_neg (nI_pos (by omega)), M_drv_e h.2.1, zci, bM_lacksOf_68, zidx_n (by omega) (by decide), (h.2.1.2.2.2.2.2.2.1 v hv).1, if_neg (nI_ge hk2 (by omega)), M_drv_e h.2.1, zci, bM_lacksOf_83, pk_mul, nI_add, zidx_n (by omega) (by decide), hm.1, nI_add k 1]
    by_cases e : ((P.2.2.2.1 v)[k]).1 = 2
    · rw [if_pos (by rw [e]), M_drv_e h.2.1, zci, bM_lacksOf_105, pk_mul, nI_add, zidx_n (by omega) (by decide), hm.2, nI_add k 1, bits_snoc]
      have e2 : l0 ++ ofk 2 ((P.2.2.2.1 v).take k) ++ [((P.2.2.2.1 v)[k]).2] = l0 ++ ofk 2 ((P.2.2.2.1 v).take (k + 1)) := by
        rw [et]
        unfold ofk
        rw [List.filter_append, List.filter_cons_of_pos (by simpa using e)]
        simp
      rw [e2]
      exact ih (k + 1) (by omega)
    · rw [if_neg (by rw [nI_eq (by omega) (by decide)]; exact e)]
      have e2 : ofk 2 ((P.2.2.2.1 v).take k) = ofk 2 ((P.2.2.2.1 v).take (k + 1)) := by
        rw [et]
        unfold ofk
        rw [List.filter_append, List.filter_cons_of_neg (by simpa using e)]
        simp
      rw [e2]
      exact ih (k + 1) (by omega)
theorem b_not {k : Nat} (hk : k < 32) {S : Int32} {j : Nat} (hj : j < 32) : bt (S &&& ((nI 1 <<< (nI k &&& 31)) ^^^ (-1))) j = (bt S j && decide (j ≠ k)) := by
  rw [b_and, b_xor, b_bit hk, b_m1 j hj]
  by_cases e : j = k
  · simp [e]
  · simp [e]
theorem M_lacksOf_g (h : MX P sd T I) (hT : TV P T) : ∀ (n k : Nat) (S : Int32), k + n = P.1.2.2 → ∃ U, EV ρ (d + 6) 79 122 [.ref 257, zU, .int S, zU, .int (nI k)] [] (mk c R I L) = some ([.int U], mk c R I L) ∧ ∀ j, j < 32 → bt U j = (bt S j && !(decide (k ≤ j ∧ j < P.1.2.2 ∧ T.2.1.2.1 j ≠ none))) := by
  have hV := h.1
  have h12 := hV.1
  have h8 := hV.2.2.1
  intro n
  induction n with
  | zero =>
    intro k S hk
    refine ⟨S, ?_, fun j hj => ?_⟩
    · rw [bM_lacksOf_122, M_supplies_e h.2.1, zci, bM_lacksOf_128, if_pos (nI_le (by omega) (by omega))]
    · rw [decide_eq_false (by omega)]; simp
  | succ n ih =>
    intro k S hk
    have hlt : ∀ y, T.2.1.2.1 k = some y → y < 2 ^ 31 := fun y hy => by have := hT.2.2.2.1 k y hy; omega
    rw [bM_lacksOf_122, M_supplies_e h.2.1, zci, bM_lacksOf_128, if_neg (nI_ge (by omega) (by omega)), nI_add 280 k, zidx_n (by omega) (by decide), h.2.2.2.2.1.2.1 k (by omega), nI_add k 1]
    cases e : T.2.1.2.1 k with
    | none =>
      rw [if_pos (by decide)]
      obtain ⟨U, g1, g2⟩ := ih (k + 1) S (by omega)
      refine ⟨U, g1, fun j hj => ?_⟩
      rw [g2 j hj]
      congr 2
      rw [decide_eq_decide]
      constructor
      · rintro ⟨a, b, c⟩; exact ⟨by omega, b, c⟩
      · rintro ⟨a, b, c⟩
        refine ⟨?_, b, c⟩
        by_cases ej : j = k
        · rw [ej] at c; exact absurd e c
        · omega
    | some y =>
      rw [eO_s, if_neg (nI_pos (hlt y e))]
      obtain ⟨U, g1, g2⟩ := ih (k + 1) _ (by omega)
      refine ⟨U, g1, fun j hj => ?_⟩
      rw [g2 j hj, b_not (by omega) hj]
      by_cases ej : j = k
      · subst ej
        have : decide (j ≤ j ∧ j < P.1.2.2 ∧ T.2.1.2.1 j ≠ none) = true := decide_eq_true ⟨Nat.le_refl _, by omega, by rw [e]; exact fun z => by cases z⟩
        rw [this]
        simp
      · have : decide (k + 1 ≤ j ∧ j < P.1.2.2 ∧ T.2.1.2.1 j ≠ none) = decide (k ≤ j ∧ j < P.1.2.2 ∧ T.2.1.2.1 j ≠ none) := by
          rw [decide_eq_decide]
          constructor
          · rintro ⟨a, b, c⟩; exact ⟨by omega, b, c⟩
          · rintro ⟨a, b, c⟩; exact ⟨by omega, b, c⟩
        simp [ej, this]
theorem ofk_m {k : Nat} {l : List (Nat × Nat)} {j : Nat} : j ∈ ofk k l ↔ (k, j) ∈ l := by
  unfold ofk
  rw [List.mem_map]
  constructor
  · rintro ⟨z, hz, e⟩
    have := List.mem_filter.mp hz
    have e1 : z.1 = k := by simpa using this.2
    rw [← e, ← e1]
    exact this.1
  · intro hz
    exact ⟨(k, j), List.mem_filter.mpr ⟨hz, by simp⟩, rfl⟩
theorem M_lacksOf_e (h : MX P sd T I) (hT : TV P T) {x : Nat} (hx : x < P.1.1) : EV ρ (d + 6) 79 0 [.ref 257, .int (nI x), zU, zU, zU] [] (mk c R I L) = some ([.int (lks P T x)], mk c R I L) := by
  have hV := h.1
  have h12 := hV.1
  have h8 := hV.2.2.1
  have key : ∀ (l : List Nat), (∀ j ∈ l, j < P.1.2.2) → (∀ j, j ∈ l ↔ (j ∈ P.2.2.1 x ∨ ∃ v, (lnL P T x)[0]? = some v ∧ j ∈ ofk 2 (P.2.2.2.1 v))) → EV ρ (d + 6) 79 122 [.ref 257, zU, .int (bitsL l), zU, .int (nI 0)] [] (mk c R I L) = some ([.int (lks P T x)], mk c R I L) := fun l hl hm => by
    obtain ⟨U, g1, g2⟩ := M_lacksOf_g (ρ := ρ) (d := d) (c := c) (R := R) (L := L) h hT P.1.2.2 0 (bitsL l) (by omega)
    rw [g1]
    congr 4
    refine b_ext fun j hj => ?_
    unfold lks
    rw [g2 j hj, bt_R (by decide), bt_bits (fun k hk => by have := hl k hk; omega)]
    rw [Bool.eq_iff_iff]
    simp only [Bool.and_eq_true, decide_eq_true_eq, Bool.not_eq_true', decide_eq_false_iff_not]
    constructor
    · rintro ⟨a, b⟩
      refine ⟨by have := hl j a; omega, (hm j).mp a, Classical.byContradiction fun z => b ⟨Nat.zero_le _, hl j a, z⟩⟩
    · rintro ⟨a, b, e⟩
      exact ⟨(hm j).mpr b, fun z => z.2.2 e⟩
  have hne : ∀ j ∈ P.2.2.1 x, j < P.1.2.2 := fun j hj => (hV.2.2.2.2.1 x hx).2 j hj
  rw [bM_lacksOf_0]
  have e0 := M_lacksOf_n (ρ := ρ) (d := d) (c := c) (R := R) (L := L) h hx (P.2.2.1 x).length 0 (by omega)
  rw [List.take_zero] at e0
  rw [show nI 0 = bitsL [] from rfl] at *
  rw [e0]
  cases ef : (lnL P T x)[0]? with
  | none =>
    rw [bM_lacksOf_53, if_pos (by decide)]
    refine key (P.2.2.1 x) hne (fun j => ?_)
    constructor
    · exact Or.inl
    · rintro (z | ⟨v, hv, -⟩)
      · exact z
      · rw [ef] at hv; cases hv
  | some v =>
    have hvn := lnL_lt hV hx (List.mem_of_getElem? ef)
    have e1 := M_lacksOf_s (ρ := ρ) (d := d) (c := c) (R := R) (L := L) h hvn (P.2.2.1 x) (P.2.2.2.1 v).length 0 (by omega)
    rw [List.take_zero, show P.2.2.1 x ++ ofk 2 [] = P.2.2.1 x from List.append_nil _, show nI 0 = bitsL [] from rfl] at e1
    rw [eO_s, e1]
    refine key _ (fun j hj => ?_) (fun j => ?_)
    · rcases List.mem_append.mp hj with hj | hj
      · exact hne j hj
      · exact ((hV.2.2.2.2.2.1 v hvn).2 (2, j) (ofk_m.mp hj)).2.2.1 rfl
    · rw [List.mem_append]
      constructor
      · rintro (z | z)
        · exact Or.inl z
        · exact Or.inr ⟨v, ef, z⟩
      · rintro (z | ⟨w, hw, z⟩)
        · exact Or.inl z
        · rw [ef] at hw; cases hw; exact Or.inr z
theorem M_givesOf_l (h : MX P sd T I) {v : Nat} (hv : v < P.1.2.1) : ∀ (n k : Nat), k + n = (P.2.2.2.1 v).length → EV ρ (d + 2) 80 4 [.ref 257, .int (nI v), .int (bitsL (ofk 3 ((P.2.2.2.1 v).take k))), .int (nI k)] [] (mk c R I L) = some ([.int (bitsL (ofk 3 (P.2.2.2.1 v)))], mk c R I L) := by
  have hV := h.1
  have h8 := hV.2.1
  have hsd := h.2.1.1
  have h6 := (hV.2.2.2.2.2.1 v hv).1
  intro n
  induction n with
  | zero =>
    intro k hk
    rw [List.take_of_length_le (by omega), bM_givesOf_4, M_drv_e h.2.1, zci, bM_givesOf_14, zidx_n (by omega) (by decide), (h.2.1.2.2.2.2.2.2.1 v hv).1, if_pos (nI_le (by omega) (by omega))]
  | succ n ih =>
    intro k hk
    have hk2 : k < (P.2.2.2.1 v).length := by omega
    have hm := (h.2.1.2.2.2.2.2.2.1 v hv).2 k _ (List.getElem?_eq_getElem hk2)
    have hz := (sp_oks hV hv _ (List.getElem_mem hk2)).1
    have et : (P.2.2.2.1 v).take (k + 1) = (P.2.2.2.1 v).take k ++ [(P.2.2.2.1 v)[k]] := by rw [List.take_succ, List.getElem?_eq_getElem hk2]; rfl
    rw [bM_givesOf_4, M_drv_e h.2.1, zci, bM_givesOf_14, zidx_n (by omega) (by decide), (h.2.1.2.2.2.2.2.2.1 v hv).1, if_neg (nI_ge hk2 (by omega)), M_drv_e h.2.1, zci, bM_givesOf_29, pk_mul, nI_add, zidx_n (by omega) (by decide), hm.1, nI_add k 1]
    by_cases e : ((P.2.2.2.1 v)[k]).1 = 3
    · rw [if_pos (by rw [e]), M_drv_e h.2.1, zci, bM_givesOf_50, pk_mul, nI_add, zidx_n (by omega) (by decide), hm.2, nI_add k 1, bits_snoc]
      have e2 : ofk 3 ((P.2.2.2.1 v).take k) ++ [((P.2.2.2.1 v)[k]).2] = ofk 3 ((P.2.2.2.1 v).take (k + 1)) := by
        rw [et]
        unfold ofk
        rw [List.filter_append, List.filter_cons_of_pos (by simpa using e)]
        simp
      rw [e2]
      exact ih (k + 1) (by omega)
    · rw [if_neg (by rw [nI_eq (by omega) (by decide)]; exact e)]
      have e2 : ofk 3 ((P.2.2.2.1 v).take k) = ofk 3 ((P.2.2.2.1 v).take (k + 1)) := by
        rw [et]
        unfold ofk
        rw [List.filter_append, List.filter_cons_of_neg (by simpa using e)]
        simp
      rw [e2]
      exact ih (k + 1) (by omega)
theorem M_givesOf_e (h : MX P sd T I) {v : Nat} (hv : v < P.1.2.1) : EV ρ (d + 2) 80 0 [.ref 257, .int (nI v), zU, zU] [] (mk c R I L) = some ([.int (bitsL (ofk 3 (P.2.2.2.1 v)))], mk c R I L) := by
  rw [bM_givesOf_0]
  exact M_givesOf_l h hv (P.2.2.2.1 v).length 0 (by omega)
theorem M_waitsFor_l (h : MX P sd T I) (hT : TV P T) {x : Nat} (hx : x < P.1.1) {f : Nat → Bool} (hf : f = fun o => (decide (o ≠ x) && (opn T o && (match (lnL P T o)[0]? with
    | none => false
    | some v => decide (¬ bitsL (ofk 3 (P.2.2.2.1 v)) &&& lks P T x = 0)))) || decide (P.2.1 x = some o ∧ T.1.1.1.1 o ≠ 3)) : ∀ (n k : Nat), k + n = P.1.1 → EV ρ (d + 7) 81 21 [.ref 257, .int (nI x), .int (lks P T x), .int (bR k f), .int (nI k), zU, zU] [] (mk c R I L) = some ([.int (bR P.1.1 f)], mk c R I L) := by
  have hV := h.1
  have h12 := hV.1
  have h8 := hV.2.1
  intro n
  induction n with
  | zero =>
    intro k hk
    obtain rfl : k = P.1.1 := by omega
    rw [bM_waitsFor_21, M_devices_e h.2.1, zci, bM_waitsFor_27, if_pos (nI_le (by omega) (by omega))]
  | succ n ih =>
    intro k hk
    have hkn : k < P.1.1 := by omega
    have hs := hT.1 k
    have no : f k = false → EV ρ (d + 7) 81 21 [.ref 257, .int (nI x), .int (lks P T x), .int (bR k f), .int (nI (k + 1)), zU, zU] [] (mk c R I L) = some ([.int (bR P.1.1 f)], mk c R I L) := fun e => by
      have := ih (k + 1) (by omega)
      rw [bR_s, e, if_neg (by decide)] at this
      exact this
    have yes : f k = true → EV ρ (d + 7) 81 21 [.ref 257, .int (nI x), .int (lks P T x), .int (bR k f ||| (nI 1 <<< (nI k &&& 31))), .int (nI (k + 1)), zU, zU] [] (mk c R I L) = some ([.int (bR P.1.1 f)], mk c R I L) := fun e => by
      have := ih (k + 1) (by omega)
      rw [bR_s, e, if_pos rfl] at this
      exact this
    -- the second half of the condition
    have tail : (decide (k ≠ x) && (opn T k && (match (lnL P T k)[0]? with
        | none => false
        | some v => decide (¬ bitsL (ofk 3 (P.2.2.2.1 v)) &&& lks P T x = 0)))) = false → zcI (EV ρ (d + 6) 42 0 [.ref 257, .int (nI x)] [] (mk c R I L)) (fun x2 s1 => EV ρ (d + 7) 81 89 [.ref 257, .int (nI x), .int (lks P T x), .int (bR k f), .int (nI k), zU, zU] [.int x2, .int (nI k)] s1) = some ([.int (bR P.1.1 f)], mk c R I L) := fun e1 => by
      have ef : f k = decide (P.2.1 x = some k ∧ T.1.1.1.1 k ≠ 3) := by rw [hf]; dsimp only; rw [e1, Bool.false_or]
      rw [M_parentOf_e h.2.1 hV hx, zci, bM_waitsFor_89, nI_add k 1, nI_add 0 k, Nat.zero_add, zidx_n (by omega) (by decide), (h.2.2.1 k (by omega)).1]
      by_cases ep : P.2.1 x = some k
      · rw [if_pos ((eO_i (pa_lt hV hx) (by omega)).mpr ep).symm]
        by_cases e3 : T.1.1.1.1 k = 3
        · rw [if_pos (by rw [e3])]
          exact no (by rw [ef]; exact decide_eq_false (fun z => z.2 e3))
        · rw [if_neg (by rw [nI_eq (by omega) (by decide)]; exact e3)]
          exact yes (by rw [ef]; exact decide_eq_true ⟨ep, e3⟩)
      · rw [if_neg (fun z => ep ((eO_i (pa_lt hV hx) (by omega)).mp z.symm))]
        exact no (by rw [ef]; exact decide_eq_false (fun z => ep z.1))
    rw [bM_waitsFor_21, M_devices_e h.2.1, zci, bM_waitsFor_27, if_neg (nI_ge (by omega) (by omega)), M_inLine_e h hkn (by decide), zci, bM_waitsFor_37]
    by_cases ex : k = x
    · rw [if_pos (by rw [ex])]
      exact tail (by rw [decide_eq_false (fun z => z ex), Bool.false_and])
    · rw [if_neg (by rw [nI_eq (by omega) (by omega)]; exact ex), M_isOpen_e h.2.2 (by omega) hs, zci, bM_waitsFor_51]
      cases eo : opn T k with
      | false =>
        rw [if_pos (by decide)]
        exact tail (by rw [eo, Bool.false_and, Bool.and_false])
      | true =>
        rw [if_neg (by decide)]
        cases el : (lnL P T k)[0]? with
        | none =>
          rw [if_pos (by decide)]
          exact tail (by rw [el]; simp)
        | some v =>
          have hvn := lnL_lt hV hkn (List.mem_of_getElem? el)
          rw [eO_s, if_neg (nI_pos (by omega)), M_givesOf_e h hvn, zci, bM_waitsFor_65, nI_add k 1]
          by_cases eg : bitsL (ofk 3 (P.2.2.2.1 v)) &&& lks P T x = 0
          · rw [if_pos eg]
            exact tail (by rw [el]; simp [eg])
          · rw [if_neg eg]
            exact yes (by rw [hf]; dsimp only; rw [el, eo]; simp [ex, eg])
theorem M_waitsFor_e (h : MX P sd T I) (hT : TV P T) {x : Nat} (hx : x < P.1.1) : EV ρ (d + 7) 81 0 [.ref 257, .int (nI x), zU, zU, zU, zU, zU] [] (mk c R I L) = some ([.int (wts P T x)], mk c R I L) := by
  have h12 := h.1.1
  rw [bM_waitsFor_0, M_isOpen_e h.2.2 (by omega) (hT.1 x), zci, bM_waitsFor_5]
  unfold wts
  cases eo : opn T x with
  | false => rw [if_pos (by decide), if_neg (by decide)]
  | true =>
    rw [if_neg (by decide), M_lacksOf_e h hT hx, zci, bM_waitsFor_15, if_pos rfl]
    exact M_waitsFor_l h hT hx rfl P.1.1 0 (by omega)
end MASK3
