-- SCORES: which patterns fit an id, how well; the reference's
/-- sign c leads from k to j -/
def sG (i : List Nat) (c k j : Nat) : Bool := if c = 42 then decide (k ≤ j) else (k + 1 == j) && (c == 63 || i[k]? == some c)
def sB (i : List Nat) (c : Nat) (u : Nat → Bool) (j : Nat) : Bool := decide (j ≤ i.length) && (List.range (i.length + 1)).any (fun k => u k && sG i c k j)
/-- how many of the id's signs a pattern may have used up -/
def mB (i w : List Nat) : Nat → Bool := w.foldl (fun u c => sB i c u) (fun j => j == 0)
def mt (i w : List Nat) : Bool := mB i w i.length
def up1 (b : Option Nat) (n : Nat) : Option Nat := match b with
  | none => some n
  | some k => some (max k n)
def bsc (i : List Nat) (ps : List (List Nat)) : Option Nat := ps.foldl (fun b w => if mt i w = true then up1 b (w.countP isLi) else b) none
theorem mB_s (i w : List Nat) (c : Nat) : mB i (w ++ [c]) = sB i c (mB i w) := by
  unfold mB
  rw [List.foldl_append]
  rfl
theorem mB_le (i w : List Nat) {j : Nat} (h : i.length < j) : mB i w j = false := by
  rcases List.eq_nil_or_concat w with e | ⟨w', c, e⟩
  · subst e
    show (j == 0) = false
    exact beq_eq_false_iff_ne.mpr (by omega)
  · rw [e, List.concat_eq_append, mB_s]
    unfold sB
    rw [decide_eq_false (by omega), Bool.false_and]
theorem bsc_s (i : List Nat) (ps : List (List Nat)) (w : List Nat) : bsc i (ps ++ [w]) = if mt i w = true then up1 (bsc i ps) (w.countP isLi) else bsc i ps := by
  unfold bsc
  rw [List.foldl_append]
  rfl
theorem tk_s {α : Type} {l : List α} {k : Nat} {z : α} (h : l[k]? = some z) : l.take (k + 1) = l.take k ++ [z] := by
  rw [List.take_succ, h]
  rfl
theorem any_s (f : Nat → Bool) (k : Nat) : (List.range (k + 1)).any f = ((List.range k).any f || f k) := by
  rw [List.range_succ, List.any_append]
  show ((List.range k).any f || (f k || false)) = _
  rw [Bool.or_false]
theorem up1_e (b : Option Nat) (m : Nat) (hb : ∀ k, b = some k → k < 2 ^ 30) (hm : m < 2 ^ 30) : (if nI m ≤ eO b then eO b else nI m) = eO (up1 b m) := by
  cases b with
  | none =>
    rw [if_neg (show ¬ nI m ≤ eO none from by rw [eO_n, Int32.le_iff_toInt_le, nI_toInt (by omega)]; show ¬ (m : Int) ≤ -1; omega)]
    rfl
  | some k =>
    have := hb k rfl
    show (if nI m ≤ nI k then nI k else nI m) = nI (max k m)
    by_cases h : m ≤ k
    · rw [if_pos (nI_le h (by omega)), Nat.max_eq_left h]
    · rw [if_neg (nI_ge (by omega) (by omega)), Nat.max_eq_right (by omega)]
theorem cP_take (l : List Nat) (p : Nat → Bool) {k z : Nat} (h : l[k]? = some z) : (l.take (k + 1)).countP p = (l.take k).countP p + (p z).toNat := by
  rw [tk_s h, List.countP_append]
  congr 1
theorem star_k : ∀ n, n < 9 → ∀ k, k ≤ n → ∀ j, j < 32 → bt ((nI 1 <<< (nI (n + 1) &&& 31)) - (nI 1 <<< (nI k &&& 31))) j = (decide (k ≤ j) && decide (j ≤ n)) := by decide +kernel
theorem bsc_le {i : List Nat} : ∀ (m : Nat) (ps : List (List Nat)), ps.length = m → (∀ w ∈ ps, w.length ≤ 8) → ∀ k, bsc i ps = some k → k ≤ 8 := by
  intro m
  induction m with
  | zero => intro ps h _ k hk; rw [List.length_eq_zero_iff.mp h] at hk; cases hk
  | succ m ih =>
    intro ps h hw k hk
    rcases List.eq_nil_or_concat ps with e | ⟨qs, w, e⟩
    · rw [e] at h; cases h
    · rw [List.concat_eq_append] at e
      subst e
      rw [List.length_append] at h
      have h1 := ih qs (by simpa using h) (fun y hy => hw y (List.mem_append_left _ hy))
      have h2 := hw w (List.mem_append_right _ (List.mem_singleton.mpr rfl))
      have h3 := List.countP_le_length (p := isLi) (l := w)
      rw [bsc_s] at hk
      split at hk
      · cases e2 : bsc i qs with
        | none => rw [e2] at hk; have hk' : some (w.countP isLi) = some k := hk; cases hk'; omega
        | some y => rw [e2] at hk; have hk' : some (max y (w.countP isLi)) = some k := hk; cases hk'; have := h1 y e2; omega
      · exact h1 k hk
section MSCORE
variable {ρ : Nat × (Nat → Int32)} {d : Nat} {c : Nat × Nat} {R : Nat → Nat → Option Nat} {I J : Nat → Nat → Int32} {L : Nat → Nat → Int64} {sd x q : Nat} {i w : List Nat}
theorem mm_in {can v5 : Int32} {cc : Nat} {u : Nat → Bool} (hsd : I 257 18 = nI sd) (h1 : sd ≤ 1) (hx : x < 12) (hc : cc < 256) (hi8 : i.length ≤ 8) (hid : ∀ k z, i[k]? = some z → I 261 (8 * (12 * sd + x) + k) = nI z ∧ z < 256) (hu : ∀ b, bt can b = u b) (v1 : Int32) : ∀ (j k : Nat) (thn : Int32), i.length + 1 - k = j → k ≤ i.length + 1 → (∀ b, bt thn b = (decide (b ≤ i.length) && (List.range k).any (fun k' => u k' && sG i cc k' b))) →
    ∃ thn', EV ρ (d + 2) 38 48 [.ref 257, .int v1, .int (nI x), .int can, .int (nI i.length), .int v5, .int (nI cc), .int thn, .int (nI k)] [] (mk c R I L) = EV ρ (d + 2) 38 17 [.ref 257, .int v1, .int (nI x), .int thn', .int (nI i.length), .int (v5 + nI 1), zU, zU, zU] [] (mk c R I L) ∧ ∀ b, bt thn' b = sB i cc u b := by
  intro j
  induction j with
  | zero =>
    intro k thn hj hk ht
    have e : k = i.length + 1 := by omega
    subst e
    rw [bM_matches_48, if_pos (nI_lt (by omega) (by omega))]
    exact ⟨thn, rfl, ht⟩
  | succ j ih =>
    intro k thn hj hk ht
    have hskip : (∀ b, (u k && sG i cc k b) = true → i.length < b) → ∃ thn', EV ρ (d + 2) 38 48 [.ref 257, .int v1, .int (nI x), .int can, .int (nI i.length), .int v5, .int (nI cc), .int thn, .int (nI (k + 1))] [] (mk c R I L) = EV ρ (d + 2) 38 17 [.ref 257, .int v1, .int (nI x), .int thn', .int (nI i.length), .int (v5 + nI 1), zU, zU, zU] [] (mk c R I L) ∧ ∀ b, bt thn' b = sB i cc u b := fun hz => by
      refine ih (k + 1) thn (by omega) (by omega) (fun b => ?_)
      rw [ht b, any_s]
      by_cases hb : b ≤ i.length
      · cases e : (u k && sG i cc k b)
        · rw [Bool.or_false]
        · exact absurd (hz b e) (by omega)
      · rw [decide_eq_false hb, Bool.false_and, Bool.false_and]
    have hset : ∀ (y : Int32), (∀ b, b < 32 → (decide (b ≤ i.length) && bt y b) = (decide (b ≤ i.length) && (u k && sG i cc k b))) → (∀ b, bt y b = true → b ≤ i.length) → ∃ thn', EV ρ (d + 2) 38 48 [.ref 257, .int v1, .int (nI x), .int can, .int (nI i.length), .int v5, .int (nI cc), .int (thn ||| y), .int (nI (k + 1))] [] (mk c R I L) = EV ρ (d + 2) 38 17 [.ref 257, .int v1, .int (nI x), .int thn', .int (nI i.length), .int (v5 + nI 1), zU, zU, zU] [] (mk c R I L) ∧ ∀ b, bt thn' b = sB i cc u b := fun y hy hy2 => by
      refine ih (k + 1) (thn ||| y) (by omega) (by omega) (fun b => ?_)
      rw [b_or, ht b, any_s]
      by_cases hb : b ≤ i.length
      · have := hy b (by omega)
        rw [decide_eq_true hb, Bool.true_and, Bool.true_and] at this
        rw [decide_eq_true hb, Bool.true_and, Bool.true_and, this]
      · rw [decide_eq_false hb, Bool.false_and, Bool.false_and, Bool.false_or]
        cases e : bt y b
        · rfl
        · exact absurd (hy2 b e) hb
    have hbit : k < i.length → (∀ b, (u k && sG i cc k b) = (k + 1 == b)) → ∃ thn', EV ρ (d + 2) 38 48 [.ref 257, .int v1, .int (nI x), .int can, .int (nI i.length), .int v5, .int (nI cc), .int (thn ||| (nI 1 <<< (nI (k + 1) &&& 31))), .int (nI (k + 1))] [] (mk c R I L) = EV ρ (d + 2) 38 17 [.ref 257, .int v1, .int (nI x), .int thn', .int (nI i.length), .int (v5 + nI 1), zU, zU, zU] [] (mk c R I L) ∧ ∀ b, bt thn' b = sB i cc u b := fun hkl hz => by
      refine hset _ (fun b hb => ?_) (fun b hb => ?_)
      · rw [b_bit (by omega), hz b]
        congr 1
        by_cases e : b = k + 1
        · rw [e, decide_eq_true rfl]; exact (beq_self_eq_true _).symm
        · rw [decide_eq_false e]; exact (beq_eq_false_iff_ne.mpr (Ne.symm e)).symm
      · rw [b_bit (by omega)] at hb
        have := of_decide_eq_true hb
        omega
    rw [bM_matches_48, if_neg (nI_nlt (by omega) (by omega)), M_has_e _ (by omega), zci, bM_matches_61, hu k, nI_add]
    cases euk : u k
    · rw [if_pos (by decide)]
      rw [euk] at hskip
      exact hskip (fun b hb => by cases hb)
    · rw [if_neg (by decide)]
      rw [euk] at hskip hset hbit
      by_cases c1 : cc = 42
      · rw [if_pos (by rw [c1])]
        refine hset _ (fun b hb => ?_) (fun b hb => ?_)
        · rw [nI_add, star_k i.length (by omega) k (by omega) b hb]
          unfold sG
          rw [if_pos c1]
          cases decide (b ≤ i.length) <;> cases decide (k ≤ b) <;> rfl
        · by_cases hb32 : b < 32
          · rw [nI_add, star_k i.length (by omega) k (by omega) b hb32, Bool.and_eq_true] at hb
            exact of_decide_eq_true hb.2
          · rw [b_big (by omega)] at hb; cases hb
      · rw [if_neg (fun z => c1 ((nI_eq (by omega) (by omega)).mp z))]
        have hsg : ∀ b, sG i cc k b = ((k + 1 == b) && (cc == 63 || i[k]? == some cc)) := fun b => by unfold sG; rw [if_neg c1]
        by_cases c2 : i.length ≤ k
        · rw [if_pos (nI_le c2 (by omega))]
          refine hskip (fun b hb => ?_)
          rw [hsg, Bool.true_and, Bool.and_eq_true] at hb
          have := beq_iff_eq.mp hb.1
          omega
        · rw [if_neg (nI_ge (by omega) (by omega))]
          by_cases c3 : cc = 63
          · rw [if_pos (by rw [c3])]
            refine hbit (by omega) (fun b => ?_)
            rw [hsg, c3]
            cases (k + 1 == b) <;> rfl
          · have h63 : (cc == 63) = false := beq_eq_false_iff_ne.mpr c3
            obtain ⟨z, hz⟩ : ∃ z, i[k]? = some z := ⟨i[k], List.getElem?_eq_getElem (by omega)⟩
            obtain ⟨y1, y2⟩ := hid k z hz
            rw [if_neg (fun z => c3 ((nI_eq (by omega) (by omega)).mp z)), bM_dev_0, hsd, pk_mul, nI_add, zci, bM_matches_120, pk_mul, nI_add, zidx_n (by omega) (by decide), y1, nI_add]
            by_cases c4 : cc = z
            · rw [if_pos (by rw [c4])]
              refine hbit (by omega) (fun b => ?_)
              rw [hsg, h63, hz, c4, Bool.true_and, Bool.false_or, beq_self_eq_true, Bool.and_true]
            · rw [if_neg (fun y => c4 ((nI_eq (by omega) (by omega)).mp y))]
              refine hskip (fun b hb => ?_)
              rw [hsg, h63, hz, Bool.true_and, Bool.false_or, beq_eq_false_iff_ne.mpr (fun y => c4 (Option.some.inj y).symm), Bool.and_false] at hb
              cases hb
theorem mm_out (hsd : I 257 18 = nI sd) (h1 : sd ≤ 1) (hx : x < 12) (hq : q < 48) (hi8 : i.length ≤ 8) (hid : ∀ k z, i[k]? = some z → I 261 (8 * (12 * sd + x) + k) = nI z ∧ z < 256) (hw8 : w.length ≤ 8) (hl : I 269 q = nI w.length) (hw : ∀ k z, w[k]? = some z → I 268 (8 * q + k) = nI z ∧ z < 256) : ∀ (j k : Nat) (can : Int32), w.length - k = j → k ≤ w.length → (∀ b, bt can b = mB i (w.take k) b) →
    EV ρ (d + 2) 38 17 [.ref 257, .int (nI q), .int (nI x), .int can, .int (nI i.length), .int (nI k), zU, zU, zU] [] (mk c R I L) = some ([.int (bo (mt i w))], mk c R I L) := by
  intro j
  induction j with
  | zero =>
    intro k can hj hk hb
    have e : k = w.length := by omega
    subst e
    rw [List.take_length] at hb
    rw [bM_matches_17, zidx_n hq (by decide), hl, if_pos (nI_le (Nat.le_refl _) (by omega)), M_has_e _ (by omega), zci, bM_matches_160, zbb, hb]
    rfl
  | succ j ih =>
    intro k can hj hk hb
    obtain ⟨z, hz⟩ : ∃ z, w[k]? = some z := ⟨w[k], List.getElem?_eq_getElem (by omega)⟩
    obtain ⟨y1, y2⟩ := hw k z hz
    rw [bM_matches_17, zidx_n hq (by decide), hl, if_neg (nI_ge (by omega) (by omega)), pk_mul, nI_add, zidx_n (by omega) (by decide), y1]
    obtain ⟨thn, g1, g2⟩ := mm_in (ρ := ρ) (d := d) (c := c) (R := R) (L := L) (can := can) (v5 := nI k) (cc := z) (u := mB i (w.take k)) hsd h1 hx y2 hi8 hid hb (nI q) (i.length + 1) 0 (nI 0) rfl (Nat.zero_le _) (fun b => by rw [show bt (nI 0) b = false from b_0 b]; show false = (_ && false); rw [Bool.and_false])
    rw [g1, nI_add]
    refine ih (k + 1) thn (by omega) (by omega) (fun b => ?_)
    rw [g2 b, tk_s hz, mB_s]
theorem M_matches_e (hsd : I 257 18 = nI sd) (h1 : sd ≤ 1) (hx : x < 12) (hq : q < 48) (hi8 : i.length ≤ 8) (hil : I 262 (12 * sd + x) = nI i.length) (hid : ∀ k z, i[k]? = some z → I 261 (8 * (12 * sd + x) + k) = nI z ∧ z < 256) (hw8 : w.length ≤ 8) (hl : I 269 q = nI w.length) (hw : ∀ k z, w[k]? = some z → I 268 (8 * q + k) = nI z ∧ z < 256) : EV ρ (d + 2) 38 0 [.ref 257, .int (nI q), .int (nI x), zU, zU, zU, zU, zU, zU] [] (mk c R I L) = some ([.int (bo (mt i w))], mk c R I L) := by
  rw [bM_matches_0, bM_dev_0, hsd, pk_mul, nI_add, zci, bM_matches_11, zidx_n (by omega) (by decide), hil]
  refine mm_out hsd h1 hx hq hi8 hid hw8 hl hw w.length 0 (nI 1) rfl (Nat.zero_le _) (fun b => ?_)
  show bt (nI 1) b = (b == 0)
  have : ∀ b, b < 32 → bt (nI 1) b = (b == 0) := by decide +kernel
  by_cases hb : b < 32
  · exact this b hb
  · rw [b_big (by omega)]
    exact (beq_eq_false_iff_ne.mpr (by omega)).symm
theorem so_51 {v1 v2 v3 v4 : Int32} (hq : q < 48) (hw8 : w.length ≤ 8) (hl : I 269 q = nI w.length) (hw : ∀ k z, w[k]? = some z → I 268 (8 * q + k) = nI z ∧ z < 256) : ∀ (j k : Nat), w.length - k = j → k ≤ w.length → EV ρ (d + 3) 39 51 [.ref 257, .int v1, .int v2, .int v3, .int v4, .int (nI q), .int (nI ((w.take k).countP isLi)), .int (nI k)] [] (mk c R I L) = if nI (w.countP isLi) ≤ v3 then EV ρ (d + 3) 39 5 [.ref 257, .int v1, .int v2, .int v3, .int (v4 + nI 1), zU, zU, zU] [] (mk c R I L) else EV ρ (d + 3) 39 5 [.ref 257, .int v1, .int v2, .int (nI (w.countP isLi)), .int (v4 + nI 1), zU, zU, zU] [] (mk c R I L) := by
  intro j
  induction j with
  | zero =>
    intro k hj hk
    have e : k = w.length := by omega
    subst e
    rw [bM_scoreOf_51, zidx_n hq (by decide), hl, if_pos (nI_le (Nat.le_refl _) (by omega)), List.take_length]
  | succ j ih =>
    intro k hj hk
    obtain ⟨z, hz⟩ : ∃ z, w[k]? = some z := ⟨w[k], List.getElem?_eq_getElem (by omega)⟩
    obtain ⟨y1, y2⟩ := hw k z hz
    have hi := ih (k + 1) (by omega) (by omega)
    rw [cP_take w isLi hz] at hi
    rw [bM_scoreOf_51, zidx_n hq (by decide), hl, if_neg (nI_ge (by omega) (by omega)), pk_mul, nI_add, zidx_n (by omega) (by decide), y1, nI_add, nI_add]
    by_cases c1 : z = 63
    · rw [if_pos (by rw [c1])]
      rw [c1] at hi
      exact hi
    · rw [if_neg (fun y => c1 ((nI_eq (by omega) (by omega)).mp y)), zidx_n (by omega) (by decide), y1]
      by_cases c2 : z = 42
      · rw [if_pos (by rw [c2])]
        rw [c2] at hi
        exact hi
      · rw [if_neg (fun y => c2 ((nI_eq (by omega) (by omega)).mp y))]
        rw [show isLi z = true from by unfold isLi; rw [beq_eq_false_iff_ne.mpr c1, beq_eq_false_iff_ne.mpr c2]; rfl] at hi
        exact hi
/-- the reference's score -/
theorem M_scoreOf_e {v : Nat} {ps : List (List Nat)} (hsd : I 257 18 = nI sd) (h1 : sd ≤ 1) (hx : x < 12) (hv : v < 8) (hi8 : i.length ≤ 8) (hil : I 262 (12 * sd + x) = nI i.length) (hid : ∀ k z, i[k]? = some z → I 261 (8 * (12 * sd + x) + k) = nI z ∧ z < 256) (hp3 : ps.length ≤ 3) (hpl : I 267 (8 * sd + v) = nI ps.length) (hps : ∀ a w, ps[a]? = some w → w.length ≤ 8 ∧ I 269 (3 * (8 * sd + v) + a) = nI w.length ∧ ∀ k z, w[k]? = some z → I 268 (8 * (3 * (8 * sd + v) + a) + k) = nI z ∧ z < 256) : EV ρ (d + 3) 39 0 [.ref 257, .int (nI v), .int (nI x), zU, zU, zU, zU, zU] [] (mk c R I L) = some ([.int (eO (bsc i ps))], mk c R I L) := by
  have hb : ∀ m, ∀ k, bsc i (ps.take m) = some k → k < 2 ^ 30 := fun m k hk => by
    have := bsc_le (i := i) _ (ps.take m) rfl (fun w hw => by
      obtain ⟨a, ha⟩ := List.mem_iff_getElem?.mp (List.mem_of_mem_take hw)
      exact (hps a w ha).1) k hk
    omega
  have loop : ∀ (j a : Nat), ps.length - a = j → a ≤ ps.length → EV ρ (d + 3) 39 5 [.ref 257, .int (nI v), .int (nI x), .int (eO (bsc i (ps.take a))), .int (nI a), zU, zU, zU] [] (mk c R I L) = some ([.int (eO (bsc i ps))], mk c R I L) := by
    intro j
    induction j with
    | zero =>
      intro a hj ha
      have e : a = ps.length := by omega
      subst e
      rw [bM_scoreOf_5, bM_drv_0, hsd, pk_mul, nI_add, zci, bM_scoreOf_16, zidx_n (by omega) (by decide), hpl, if_pos (nI_le (Nat.le_refl _) (by omega)), List.take_length]
    | succ j ih =>
      intro a hj ha
      obtain ⟨w, hw⟩ : ∃ w, ps[a]? = some w := ⟨ps[a], List.getElem?_eq_getElem (by omega)⟩
      obtain ⟨y1, y2, y3⟩ := hps a w hw
      have hi := ih (a + 1) (by omega) (by omega)
      rw [tk_s hw, bsc_s] at hi
      rw [bM_scoreOf_5, bM_drv_0, hsd, pk_mul, nI_add, zci, bM_scoreOf_16, zidx_n (by omega) (by decide), hpl, if_neg (nI_ge (by omega) (by omega)), bM_drv_0, hsd, pk_mul, nI_add, zci, bM_scoreOf_26, pk_mul, nI_add, M_matches_e hsd h1 hx (by omega) hi8 hil hid y1 y2 y3, zci, bM_scoreOf_39, nI_add]
      by_cases c1 : mt i w = true
      · rw [if_pos c1] at hi
        rw [c1, if_neg (by decide)]
        have h51 := so_51 (ρ := ρ) (d := d) (c := c) (R := R) (L := L) (v1 := nI v) (v2 := nI x) (v3 := eO (bsc i (ps.take a))) (v4 := nI a) (q := 3 * (8 * sd + v) + a) (by omega) y1 y2 y3 _ 0 rfl (Nat.zero_le _)
        have h3 := List.countP_le_length (p := isLi) (l := w)
        rw [show (w.take 0).countP isLi = 0 from rfl] at h51
        rw [h51, nI_add]
        rw [← up1_e _ _ (hb a) (by omega)] at hi
        by_cases c2 : nI (w.countP isLi) ≤ eO (bsc i (ps.take a))
        · rw [if_pos c2] at hi ⊢; exact hi
        · rw [if_neg c2] at hi ⊢; exact hi
      · have c1' : mt i w = false := by rw [Bool.eq_false_iff]; exact c1
        rw [if_neg c1] at hi
        rw [c1', if_pos (by decide)]
        exact hi
  rw [bM_scoreOf_0]
  exact loop ps.length 0 rfl (Nat.zero_le _)
end MSCORE
