-- TOKENS: what is known of them
theorem scn_all (p : Nat → Bool) : ∀ (f k i : Nat), k ≤ i → i < scn p f k → p i = true := by
  intro f
  induction f with
  | zero => intro k i h1 h2; exact absurd h2 (Nat.not_lt.mpr h1)
  | succ f ih =>
    intro k i h1 h2
    unfold scn at h2
    split at h2
    · rename_i hp
      by_cases e : i = k
      · rw [e]; exact hp
      · exact ih (k + 1) i (by omega) h2
    · omega
theorem slc_mem {t : Nat → Nat} {a b x : Nat} (h : x ∈ slc t a b) : ∃ i, a ≤ i ∧ i < b ∧ t i = x := by
  unfold slc at h
  obtain ⟨i, hi, e⟩ := List.mem_map.mp h
  have := List.mem_range.mp hi
  exact ⟨a + i, by omega, by omega, e⟩
theorem slc_in {t : Nat → Nat} {a b i : Nat} (h1 : a ≤ i) (h2 : i < b) : t i ∈ slc t a b := by
  unfold slc
  exact List.mem_map.mpr ⟨i - a, List.mem_range.mpr (by omega), by rw [show a + (i - a) = i from by omega]⟩
theorem isSg_lt {c : Nat} (h : isSg c = true) : c < 128 := by
  apply Classical.byContradiction
  intro h2
  unfold isSg isLt isDg at h
  simp only [Bool.or_eq_true, Bool.and_eq_true, decide_eq_true_iff, beq_iff_eq] at h
  omega
theorem isAn_lt {c : Nat} (h : isAn c = true) : 48 ≤ c ∧ c < 128 := by
  apply Classical.byContradiction
  intro h2
  unfold isAn isLt isDg at h
  simp only [Bool.or_eq_true, Bool.and_eq_true, decide_eq_true_iff] at h
  omega
theorem isDg_i {c : Nat} (h : isDg c = true) : 48 ≤ c ∧ c ≤ 57 := by
  unfold isDg at h
  rw [Bool.and_eq_true, decide_eq_true_iff, decide_eq_true_iff] at h
  exact h
theorem qy_lt {n : Nat} {t : Nat → Nat} {k : Nat} (h : k < n) : qy n t k = t k := if_pos h
theorem qy_ge {n : Nat} {t : Nat → Nat} {k : Nat} (h : ¬ k < n) : qy n t k = 256 := if_neg h
/-- what is known of a token -/
def TkI (n : Nat) (t : Nat → Nat) (K : Tk) : Prop := K.1 ≤ 5 ∧ K.2.1 ≤ n ∧ K.2.2.1 ≤ n ∧ K.2.1 ≤ K.2.2.1 ∧ (K.1 = 1 → wrd K.2.2.2) ∧ (K.1 = 1 ∨ K.1 = 2 → K.2.2.2 = slc t K.2.1 K.2.2.1 ∧ K.2.1 < K.2.2.1) ∧ (K.1 = 2 → (∀ x ∈ K.2.2.2, isDg x = true) ∧ K.2.2.2.length ≤ 2) ∧
  (K.1 = 4 → K.2.2.2 = slc t (K.2.1 + 1) K.2.2.1 ∧ (∀ x ∈ K.2.2.2, isSg x = true) ∧ 1 ≤ K.2.2.2.length ∧ K.2.2.2.length ≤ 8 ∧ K.2.1 + 1 + K.2.2.2.length = K.2.2.1)
theorem tok_i (n : Nat) (t : Nat → Nat) {e : Nat} (he : e ≤ n) : TkI n t (tok n t e) := by
  unfold tok
  have h0 := scn_le (fun i => isBl (qy n t i)) (n - e) e
  generalize scn (fun i => isBl (qy n t i)) (n - e) e = k at h0
  simp only
  by_cases c1 : n ≤ k
  · rw [if_pos c1]
    exact ⟨Nat.le_of_ble_eq_true rfl, Nat.le_refl _, Nat.le_refl _, Nat.le_refl _, fun z => (by cases z), fun z => (by rcases z with z | z <;> cases z), fun z => (by cases z), fun z => (by cases z)⟩
  rw [if_neg c1]
  by_cases c2 : t k = 59
  · rw [if_pos c2]
    exact ⟨Nat.le_of_ble_eq_true rfl, by show k ≤ n; omega, by show k + 1 ≤ n; omega, Nat.le_succ _, fun z => (by cases z), fun z => (by rcases z with z | z <;> cases z), fun z => (by cases z), fun z => (by cases z)⟩
  rw [if_neg c2]
  by_cases c3 : t k = 58
  · rw [if_pos c3]
    have h1 := scn_le (fun i => isSg (qy n t i)) (n - (k + 1)) (k + 1)
    have h2 := scn_all (fun i => isSg (qy n t i)) (n - (k + 1)) (k + 1)
    generalize scn (fun i => isSg (qy n t i)) (n - (k + 1)) (k + 1) = a at h1 h2
    by_cases c4 : 2 ≤ a - k ∧ a - k ≤ 9
    · rw [if_pos c4]
      refine ⟨Nat.le_of_ble_eq_true rfl, by show k ≤ n; omega, by show a ≤ n; omega, by show k ≤ a; omega, fun z => (by cases z), fun z => (by rcases z with z | z <;> cases z), fun z => (by cases z), fun _ => ⟨rfl, fun x hx => ?_, ?_, ?_, ?_⟩⟩
      · obtain ⟨i, g1, g2, g3⟩ := slc_mem hx
        have := h2 i g1 g2

        rw [qy_lt (by omega), g3] at this
        exact this
      · show 1 ≤ (slc t (k + 1) a).length; rw [slc_len]; omega
      · show (slc t (k + 1) a).length ≤ 8; rw [slc_len]; omega
      · show k + 1 + (slc t (k + 1) a).length = a; rw [slc_len]; omega
    · rw [if_neg c4]
      exact ⟨Nat.le_of_ble_eq_true rfl, by show k ≤ n; omega, by show a ≤ n; omega, by show k ≤ a; omega, fun z => (by cases z), fun z => (by rcases z with z | z <;> cases z), fun z => (by cases z), fun z => (by cases z)⟩
  rw [if_neg c3]
  have h1 := scn_le (fun i => isAn (qy n t i)) (n - k) k
  generalize scn (fun i => isAn (qy n t i)) (n - k) k = a at h1
  by_cases c4 : (slc t k a).all isLt = true ∧ 1 ≤ a - k ∧ a - k ≤ 7
  · rw [if_pos c4]
    refine ⟨Nat.le_of_ble_eq_true rfl, by show k ≤ n; omega, by show a ≤ n; omega, by show k ≤ a; omega, fun _ => ⟨fun x hx => List.all_eq_true.mp c4.1 x hx, ?_, ?_⟩, fun _ => ⟨rfl, by show k < a; omega⟩, fun z => (by cases z), fun z => (by cases z)⟩
    · show 1 ≤ (slc t k a).length; rw [slc_len]; omega
    · show (slc t k a).length ≤ 7; rw [slc_len]; omega
  rw [if_neg c4]
  by_cases c5 : (slc t k a).all isDg = true ∧ 1 ≤ a - k ∧ a - k ≤ 2
  · rw [if_pos c5]
    refine ⟨Nat.le_of_ble_eq_true rfl, by show k ≤ n; omega, by show a ≤ n; omega, by show k ≤ a; omega, fun z => (by cases z), fun _ => ⟨rfl, by show k < a; omega⟩, fun _ => ⟨fun x hx => List.all_eq_true.mp c5.1 x hx, ?_⟩, fun z => (by cases z)⟩
    show (slc t k a).length ≤ 2; rw [slc_len]; omega
  · rw [if_neg c5]
    exact ⟨Nat.le_of_ble_eq_true rfl, by show k ≤ n; omega, by show a ≤ n; omega, by show k ≤ a; omega, fun z => (by cases z), fun z => (by rcases z with z | z <;> cases z), fun z => (by cases z), fun z => (by cases z)⟩
theorem nxK_i {n : Nat} {t : Nat → Nat} {K : Tk} (h : TkI n t K) : TkI n t (nxK n t K) := tok_i n t h.2.2.1
theorem nmb_le {n : Nat} {t : Nat → Nat} {K : Tk} (h : TkI n t K) (h2 : K.1 = 2) : nmb K ≤ 99 := by
  obtain ⟨a, b⟩ := h.2.2.2.2.2.2.1 h2
  have := cd_lt (B := 10) (o := 48) K.2.2.2.length K.2.2.2 rfl (fun x hx => by have := isDg_i (a x hx); omega)
  have h3 : 10 ^ K.2.2.2.length ≤ 10 ^ 2 := Nat.pow_le_pow_right (by decide) b
  unfold nmb
  omega
theorem fre_i {K : Tk} (h : fre K = true) : K.1 = 1 ∧ kwi K.2.2.2 = none := by
  unfold fre at h
  rw [Bool.and_eq_true, beq_iff_eq, Option.isNone_iff_eq_none] at h
  exact h
theorem kW_i {i : Nat} {K : Tk} : kW i K = true ↔ K.1 = 1 ∧ K.2.2.2 = kwd i := by
  unfold kW
  rw [Bool.and_eq_true, beq_iff_eq, beq_iff_eq]
theorem z2_zz {α : Type} (f : Nat → Nat → α) (k j : Nat) (v w : α) : z2 (z2 f k j v) k j w = z2 f k j w := by
  funext a b
  rw [z2a, z2a, z2a]
  by_cases h : a = k ∧ b = j
  · rw [if_pos h, if_pos h]
  · rw [if_neg h, if_neg h, if_neg h]
theorem bo_ite {v a b : Int32} {e : Bool} {s : Sg} (h : (v < a ∨ b < v) ↔ e = false) : (if v < a then some ([Value.int (nI 0)], s) else if b < v then some ([Value.int (nI 0)], s) else some ([Value.int (nI 1)], s)) = some ([Value.int (bo e)], s) := by
  by_cases h1 : v < a
  · rw [if_pos h1, h.mp (.inl h1)]; rfl
  · rw [if_neg h1]
    by_cases h2 : b < v
    · rw [if_pos h2, h.mp (.inr h2)]; rfl
    · rw [if_neg h2]
      cases e
      · exact absurd (h.mpr rfl) (by rintro (z | z); exact h1 z; exact h2 z)
      · rfl
