-- THE COMPONENT: wanted, all sets
theorem sL_or {m k : Nat} (hm : m < 2 ^ k) : ∀ n, k < n → sL n (m ||| 2 ^ k) = sL n m ++ [k]
  | 0, h => by omega
  | n + 1, h => by
    have hmn : ∀ j, k ≤ j → m.testBit j = false := fun j hj => by
      cases e : m.testBit j with
      | false => rfl
      | true =>
        have := tb_hi hm e
        omega
    unfold sL
    rw [List.range_succ, List.filter_append, List.filter_append]
    by_cases e : k = n
    · subst e
      have e1 : (List.range k).filter (fun v => (m ||| 2 ^ k).testBit v) = (List.range k).filter (fun v => m.testBit v) := by
        refine List.filter_congr (fun j hj => ?_)
        have := List.mem_range.mp hj
        rw [Nat.testBit_or, Nat.testBit_two_pow, decide_eq_false (by omega), Bool.or_false]
      rw [e1, List.filter_cons_of_pos (by rw [Nat.testBit_or, Nat.testBit_two_pow]; simp), List.filter_cons_of_neg (by rw [hmn k (Nat.le_refl _)]; decide)]
      simp
    · have := sL_or hm n (by omega)
      unfold sL at this
      rw [this, List.filter_cons_of_neg (by rw [Nat.testBit_or, Nat.testBit_two_pow, hmn n (by omega), decide_eq_false e]; decide), List.filter_cons_of_neg (by rw [hmn n (by omega)]; decide)]
      simp
theorem nI_or {m k : Nat} (hk : k < 32) : nI m ||| (nI 1 <<< (nI k &&& 31)) = nI (m ||| 2 ^ k) := b_ext (fun j hj => by
  rw [b_or, b_bit hk, bt_n hj, bt_n hj, Nat.testBit_or, Nat.testBit_two_pow]
  by_cases e : j = k
  · simp [e]
  · rw [decide_eq_false e, decide_eq_false (fun z => e z.symm)])
/-- those that go on from m at f -/
def Ext (P : PT) (T : TT) (f m s : Nat) : Prop := (∀ j, j < f → s.testBit j = m.testBit j) ∧ s ≠ m ∧ s < 2 ^ P.1.2.1 ∧ ∀ j, s.testBit j = true → bt T.2.2.1.2 j = false
def Vis (P : PT) (T : TT) (f m k s : Nat) : Prop := Ext P T f m s ∧ ∃ j, j < k ∧ s.testBit j ≠ m.testBit j
theorem WB_iff {P : PT} {T : TT} {Q U : Nat → Prop} {I : Nat → Nat → Int32} (h : WB P T Q I) (e : ∀ s, Q s ↔ U s) : WB P T U I := fun x hx => by
  obtain ⟨o, o1, o2, o3⟩ := h x hx
  exact ⟨o, o1, fun b hb => ⟨(e b).mp (o2 b hb).1, (o2 b hb).2⟩, fun s hs => o3 s ((e s).mpr hs)⟩
theorem hi_f {m f : Nat} (hm : m < 2 ^ f) : ∀ j, f ≤ j → m.testBit j = false := fun j hj => by
  cases e : m.testBit j with
  | false => rfl
  | true =>
    have := tb_hi hm e
    omega
theorem Vis_end {P : PT} {T : TT} {f m s : Nat} (hm : m < 2 ^ P.1.2.1) : Vis P T f m P.1.2.1 s ↔ Ext P T f m s := by
  refine ⟨fun h => h.1, fun h => ⟨h, Classical.byContradiction fun z => h.2.1 (Nat.eq_of_testBit_eq (fun j => ?_))⟩⟩
  by_cases hj : j < P.1.2.1
  · exact Classical.byContradiction fun w => z ⟨j, hj, w⟩
  · rw [hi_f hm j (by omega), hi_f h.2.2.1 j (by omega)]
theorem Vis_no {P : PT} {T : TT} {f m k s : Nat} (hm : m < 2 ^ f) (hk : f ≤ k) (hl : bt T.2.2.1.2 k = true) : Vis P T f m k s ↔ Vis P T f m (k + 1) s := by
  refine ⟨fun h => ⟨h.1, h.2.elim fun j hj => ⟨j, by omega, hj.2⟩⟩, fun h => ⟨h.1, ?_⟩⟩
  obtain ⟨j, h1, h2⟩ := h.2
  refine ⟨j, ?_, h2⟩
  by_cases e : j = k
  · subst e
    rw [hi_f hm j hk] at h2
    have := h.1.2.2.2 j (by simpa using h2)
    rw [hl] at this
    cases this
  · omega
theorem Vis_s {P : PT} {T : TT} {f m k s : Nat} (hm : m < 2 ^ f) (hfk : f ≤ k) (hkn : k < P.1.2.1) (hmn : m < 2 ^ P.1.2.1) (hml : ∀ j, m.testBit j = true → bt T.2.2.1.2 j = false) (hl : bt T.2.2.1.2 k = false) : (Vis P T f m k s ∨ s = (m ||| 2 ^ k)) ∨ Ext P T (k + 1) (m ||| 2 ^ k) s ↔ Vis P T f m (k + 1) s := by
  have hb : ∀ j, (m ||| 2 ^ k).testBit j = (m.testBit j || decide (k = j)) := fun j => by rw [Nat.testBit_or, Nat.testBit_two_pow]
  have hmk := hi_f hm k hfk
  constructor
  · rintro ((h | h) | h)
    · exact ⟨h.1, h.2.elim fun j hj => ⟨j, by omega, hj.2⟩⟩
    · subst h
      refine ⟨⟨fun j hj => by rw [hb, decide_eq_false (by omega), Bool.or_false], fun e => ?_, Nat.or_lt_two_pow hmn (Nat.pow_lt_pow_right (by decide) hkn), fun j hj => ?_⟩, k, by omega, by rw [hb, hmk]; simp⟩
      · have := hb k
        rw [e, hmk] at this
        simp at this
      · rw [hb, Bool.or_eq_true, decide_eq_true_eq] at hj
        rcases hj with hj | hj
        · exact hml j hj
        · exact hj ▸ hl
    · obtain ⟨h1, h2, h3, h4⟩ := h
      have hsk : s.testBit k = true := by rw [h1 k (by omega), hb]; simp
      refine ⟨⟨fun j hj => by rw [h1 j (by omega), hb, decide_eq_false (by omega), Bool.or_false], fun e => ?_, h3, h4⟩, k, by omega, by rw [hsk, hmk]; decide⟩
      rw [e, hmk] at hsk
      cases hsk
  · rintro ⟨h, j, h1, h2⟩
    by_cases e : ∃ i, i < k ∧ s.testBit i ≠ m.testBit i
    · exact Or.inl (Or.inl ⟨h, e⟩)
    · have hag : ∀ i, i < k → s.testBit i = m.testBit i := fun i hi => Classical.byContradiction fun z => e ⟨i, hi, z⟩
      have hjk : j = k := Classical.byContradiction fun z => h2 (hag j (by omega))
      subst hjk
      rw [hmk] at h2
      have hsk : s.testBit j = true := by simpa using h2
      by_cases e2 : s = (m ||| 2 ^ j)
      · exact Or.inl (Or.inr e2)
      · refine Or.inr ⟨fun i hi => ?_, e2, h.2.2.1, h.2.2.2⟩
        rw [hb]
        by_cases e3 : i = j
        · rw [e3, hsk]; simp
        · rw [hag i (by omega), decide_eq_false (by omega), Bool.or_false]
section CWAN2
variable {ρ : Nat × (Nat → Int32)} {d : Nat} {c : Nat × Nat} {R S : Nat → Nat → Option Nat} {I J : Nat → Nat → Int32} {L : Nat → Nat → Int64} {P : PT} {a b p : Nat} {T W : TT}
def XQ (lo : Nat) (I J : Nat → Nat → Int32) : Prop := ∀ q, ¬ (lo ≤ q ∧ q ≤ 250) → q ≠ 256 → J q = I q
def XR (lo : Nat) (R S : Nat → Nat → Option Nat) : Prop := ∀ q k, ¬ (lo ≤ q ∧ q ≤ 250) → S q k = R q k
theorem XQ.rf {lo : Nat} : XQ lo I I := fun _ _ _ => rfl
theorem XR.rf {lo : Nat} : XR lo R R := fun _ _ _ => rfl
theorem XQ.tr {lo : Nat} {K : Nat → Nat → Int32} (h : XQ lo I J) (g : XQ lo J K) : XQ lo I K := fun q h1 h2 => (g q h1 h2).trans (h q h1 h2)
theorem XR.tr {lo : Nat} {U : Nat → Nat → Option Nat} (h : XR lo R S) (g : XR lo S U) : XR lo R U := fun q k h1 => (g q k h1).trans (h q k h1)
theorem XQ.mo {lo lo' : Nat} (h : XQ lo' I J) (hl : lo ≤ lo') : XQ lo I J := fun q h1 h2 => h q (by omega) h2
theorem XR.mo {lo lo' : Nat} (h : XR lo' R S) (hl : lo ≤ lo') : XR lo R S := fun q k h1 => h q k (by omega)
theorem XQ.f {e : Nat} (he : e < 8) (h : ∀ q, ¬ (107 + 18 * e ≤ q ∧ q ≤ 107 + 18 * e + 17) → J q = I q) : XQ (107 + 18 * e) I J := fun q h1 _ => h q (by omega)
theorem XQ.fb {e : Nat} (he : e < 8) (h : FB (107 + 18 * e) I J) : XQ (107 + 18 * e) I J := fun q h1 _ => h q (by omega) (by omega)
theorem CI_x {lo : Nat} (h : CI P a p W R I) (hlo : a + 18 ≤ lo) (h107 : 107 ≤ lo) (hF : XQ lo I J) (hS : XR lo R S) : CI P a p W S J := by
  obtain ⟨⟨ha, hV, hR, hC, hT⟩, hI, hH⟩ := h
  have hp := hC.1
  have hga := xb_ge ha
  have hC2 : PC P p S J := by
    have hC' := PC_to hC hV (J := J) (fun q h1 h2 => hF q (by unfold isP at hp; omega) (by unfold isP at hp; omega))
    obtain ⟨h0, a1, a2, a3, a4, a5⟩ := hC'
    refine ⟨h0, a1, a2, a3, a4, fun v hv => ?_⟩
    obtain ⟨b1, b2, b3⟩ := a5 v hv
    refine ⟨b1, fun k z hz => ?_, b3⟩
    rw [hS _ _ (by unfold isP at hp; omega)]
    exact b2 k z hz
  refine ⟨⟨ha, hV, by rw [hS a 0 (by omega)]; exact hR, hC2, CR_to hT (fun k hk => hF _ (by simp only [List.mem_cons, List.not_mem_nil, or_false] at hk; omega) (by simp only [List.mem_cons, List.not_mem_nil, or_false] at hk; omega)) (by rw [hF a (by omega) (by omega)]) (by rw [hF a (by omega) (by omega)]) (by rw [hF a (by omega) (by omega)]) (fun _ => ⟨hF _ (by omega) (by omega), hF _ (by omega) (by omega)⟩) (by rw [hF 104 (by omega) (by omega)])⟩, hI, fun x hx h3 => ?_⟩
  rw [hF _ (by omega) (by omega)]
  exact hH x hx h3
theorem fc_106 : ∀ e, e < 8 → FC 106 e = some (107 + 18 * e) := by decide
theorem WB_256 {Q : Nat → Prop} (h : WB P T Q I) (hJ : J 256 = I 256) : WB P T Q J := fun x hx => by rw [hJ]; exact h x hx
end CWAN2
