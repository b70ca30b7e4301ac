-- QUESTIONS in the reference: what a device has, lacks, waits for
/-- the numbers below n for which p holds, as bits -/
def bR (n : Nat) (p : Nat → Bool) : Int32 := bitsL ((List.range n).filter p)
theorem bR_0 (p : Nat → Bool) : bR 0 p = nI 0 := rfl
theorem bR_s (n : Nat) (p : Nat → Bool) : bR (n + 1) p = if p n then bR n p ||| (nI 1 <<< (nI n &&& 31)) else bR n p := by
  unfold bR
  rw [List.range_succ, List.filter_append]
  cases e : p n with
  | true => rw [List.filter_cons_of_pos e, List.filter_nil, if_pos rfl, bits_snoc]
  | false => rw [List.filter_cons_of_neg (by simp [e]), List.filter_nil, List.append_nil, if_neg (by decide)]
theorem bt_R {n : Nat} (hn : n ≤ 32) (p : Nat → Bool) (j : Nat) : bt (bR n p) j = (decide (j < n) && p j) := by
  unfold bR
  rw [bt_bits (fun k hk => by have := List.mem_range.mp (List.mem_filter.mp hk).1; omega)]
  rw [Bool.eq_iff_iff, decide_eq_true_eq, List.mem_filter, List.mem_range, Bool.and_eq_true, decide_eq_true_eq]
/-- supplies of the needs and of the gets of the first in line that aren't given -/
def lks (P : PT) (T : TT) (x : Nat) : Int32 := bR 8 (fun j => decide ((j ∈ P.2.2.1 x ∨ ∃ v, (lnL P T x)[0]? = some v ∧ j ∈ ofk 2 (P.2.2.2.1 v)) ∧ T.2.1.2.1 j = none))
def wts (P : PT) (T : TT) (x : Nat) : Int32 := if opn T x then bR P.1.1 (fun o => (decide (o ≠ x) && (opn T o && (match (lnL P T o)[0]? with
    | none => false
    | some v => decide (¬ bitsL (ofk 3 (P.2.2.2.1 v)) &&& lks P T x = 0)))) || decide (P.2.1 x = some o ∧ T.1.1.1.1 o ≠ 3)) else nI 0
/-- how high a bound one stands -/
def hgF (P : PT) (T : TT) : Nat → Nat → Nat
  | 0, _ => 0
  | n + 1, x => (List.range P.1.1).foldl (fun m o => if hg P T o x then max m (hgF P T n o + 1) else m) 0
theorem hgF_le (P : PT) (T : TT) : ∀ (n x : Nat), hgF P T n x ≤ n
  | 0, _ => Nat.le_refl _
  | n + 1, x => by
    unfold hgF
    have : ∀ (l : List Nat) (m : Nat), m ≤ n + 1 → l.foldl (fun m o => if hg P T o x then max m (hgF P T n o + 1) else m) m ≤ n + 1 := by
      intro l
      induction l with
      | nil => intro m hm; exact hm
      | cons o l ih =>
        intro m hm
        rw [List.foldl_cons]
        refine ih _ ?_
        split
        · have := hgF_le P T n o
          omega
        · exact hm
    exact this _ 0 (Nat.zero_le _)
/-- x leans on o: o is bound ahead of it -/
theorem low_b {P : PT} {T : TT} {x o : Nat} {A B : List Nat} (hV : PV P) (hT : IV P T) (hb : T.1.2.2.1 = A ++ x :: B) (ho : hg P T o x = true) : ∃ A1 A2, A = A1 ++ o :: A2 := by
  have hx := (hT.1.1.2.2.1.2 x).mp (by rw [hb]; simp)
  have ho2 : P.2.1 x = some o ∨ bt (T.2.1.1.1 x) o = true := by
    unfold hg at ho
    rw [Bool.or_eq_true, decide_eq_true_eq] at ho
    exact ho
  have ho3 := hT.2.2.1 x hx.1 hx.2 o ho2
  have hon : o < P.1.1 := hT.2.2.2.2 o ho3
  have hom : o ∈ T.1.2.2.1 := (hT.1.1.2.2.1.2 o).mpr ⟨hon, ho3⟩
  rw [hb] at hom
  rcases List.mem_append.mp hom with h1 | h1
  · exact List.append_of_mem h1
  · exfalso
    rcases List.mem_cons.mp h1 with h1 | h1
    · rw [h1] at ho
      unfold hg at ho
      rw [hT.2.1.2.2 x, Bool.or_false, decide_eq_true_eq] at ho
      have := hV.2.2.2.1 x hx.1 x ho
      omega
    · have hp := hT.2.1.1
      rw [hb, List.pairwise_append, List.pairwise_cons] at hp
      have := hp.2.1.1 o h1
      rw [ho] at this
      cases this
