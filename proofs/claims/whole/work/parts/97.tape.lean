-- THE TAPE: end
theorem cl_nI {w : Int32} (h : ¬ w < 0) : w = nI w.toNatClampNeg ∧ w.toNatClampNeg < 2 ^ 31 := by
  have hle : (0 : Int32) ≤ w := Int32.not_lt.mp h
  have h1 := Int32.toInt_lt w
  have h0 : (0 : Int) ≤ w.toInt := by rw [Int32.le_iff_toInt_le] at hle; exact hle
  have e1 : (w.toNatClampNeg : Int) = w.toInt := by
    unfold Int32.toNatClampNeg
    omega
  have e2 : w.toNatClampNeg < 2 ^ 31 := by omega
  exact ⟨Int32.toInt_inj.mp (by rw [nI_toInt (by omega), e1]), e2⟩
/-- the tape of n bytes ends at v -/
def pEnd (n : Nat) (v : Int32) : Int32 × Nat := if ¬ v < 0 ∧ v ≤ nI n then (v, v.toNatClampNeg) else (-1, n)
theorem pEnd_le {n : Nat} (hn : n < 2 ^ 30) (v : Int32) : (pEnd n v).2 ≤ n := by
  unfold pEnd
  split
  · rename_i h
    obtain ⟨e, hl⟩ := cl_nI h.1
    have h2 := h.2
    generalize v.toNatClampNeg = k at e hl
    subst e
    show k ≤ n
    rw [Int32.le_iff_toInt_le, nI_toInt (by omega), nI_toInt (by omega)] at h2
    omega
  · exact Nat.le_refl _
section TAPE
variable {ρ : Nat × (Nat → Int32)} {d : Nat} {c : Nat × Nat} {R : Nat → Nat → Option Nat} {I J : Nat → Nat → Int32} {L : Nat → Nat → Int64}
theorem B_end_e {n : Nat} (h : I 1 1 = nI n) (v : Int32) : ∃ J, EV ρ (d + 30) 194 0 [.ref 0, .int v] [] (mk c R I L) = some ([.int (pEnd n v).1], mk c R J L) ∧ J 1 1 = nI (pEnd n v).2 ∧ ∀ q j, ¬ (q = 1 ∧ j = 1) → J q j = I q j := by
  rw [bB_end_0, h]
  unfold pEnd
  by_cases e0 : v < 0
  · rw [if_pos e0, if_neg (fun z => z.1 e0)]
    exact ⟨I, rfl, h, fun _ _ _ => rfl⟩
  · rw [if_neg e0]
    by_cases e1 : v ≤ nI n
    · rw [if_pos e1, if_pos ⟨e0, e1⟩, bB_end_25]
      exact ⟨_, rfl, by rw [z2_at]; exact (cl_nI e0).1, fun q j hq => by rw [z2a, if_neg hq]⟩
    · rw [if_neg e1, if_neg (fun z => e1 z.2)]
      exact ⟨I, rfl, h, fun _ _ _ => rfl⟩
theorem M_end_e {n : Nat} (h : I 257 1 = nI n) (v : Int32) : ∃ J, EV ρ (d + 30) 13 0 [.ref 257, .int v] [] (mk c R I L) = some ([.int (pEnd n v).1], mk c R J L) ∧ J 257 1 = nI (pEnd n v).2 ∧ ∀ q j, ¬ (q = 257 ∧ (j = 1 ∨ j = 2)) → J q j = I q j := by
  rw [bM_end_0, bM_end_5, M_within_e, zci, bM_end_14, show z2 I 257 2 (nI 0) 257 1 = nI n from by rw [z2a, if_neg (by omega)]; exact h]
  unfold pEnd
  by_cases e : ¬ v < 0 ∧ v ≤ nI n
  · have e2 : ¬ v < nI 0 ∧ ¬ nI n < v := ⟨e.1, Int32.not_lt.mpr e.2⟩
    rw [decide_eq_true e2, if_neg (by decide), if_pos e, bM_end_24]
    exact ⟨_, rfl, by rw [z2_at]; exact (cl_nI e.1).1, fun q j hq => by rw [z2a, if_neg (by omega), z2a, if_neg (by omega)]⟩
  · have e2 : ¬ (¬ v < nI 0 ∧ ¬ nI n < v) := fun z => e ⟨z.1, Int32.not_lt.mp z.2⟩
    rw [decide_eq_false e2, if_pos (by decide), if_neg e]
    exact ⟨_, rfl, by rw [z2a, if_neg (by omega)]; exact h, fun q j hq => by rw [z2a, if_neg (by omega)]⟩
end TAPE
