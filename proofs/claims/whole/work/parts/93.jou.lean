-- THE COMPONENT: a cell of the journal
section JOU2
variable {ρ : Nat × (Nat → Int32)} {d : Nat} {c : Nat × Nat} {R : Nat → Nat → Option Nat} {I J : Nat → Nat → Int32} {L : Nat → Nat → Int64}
theorem i_lc (a b e : Int32) : a + (b + e) = b + (a + e) := by rw [← Int32.add_assoc, Int32.add_comm a b, Int32.add_assoc]
theorem j_rot (a b k e : Int32) : a - b - k + e = a + e - b - k := by
  rw [Int32.sub_eq_add_neg, Int32.sub_eq_add_neg, Int32.sub_eq_add_neg, Int32.sub_eq_add_neg]
  simp only [Int32.add_assoc, Int32.add_comm, i_lc]
theorem Jou_cell_e {l : List (Int32 × Int32 × Int32)} (h : JouIs I l) {k w : Nat} {e : Int32 × Int32 × Int32} (hk : l[k]? = some e) (hw : w < 3) : EV ρ (d + 1) 118 0 [.ref 8, .int (nI k), .int (nI w), zU, zU] [] (mk c R I L) = some ([.int (if w = 0 then e.1 else if w = 1 then e.2.1 else e.2.2)], mk c R I L) := by
  obtain ⟨h0, h1, h2, nx, h3, h4, h5⟩ := h
  obtain ⟨g1, g2, g3⟩ := h5 k e hk
  have hkl := (List.getElem?_eq_some_iff.mp hk).1
  have hpl : pl nx k < 50 := Nat.mod_lt _ (by decide)
  have hv : I 9 (3 * pl nx k + w) = if w = 0 then e.1 else if w = 1 then e.2.1 else e.2.2 := by
    by_cases w0 : w = 0
    · rw [w0, if_pos rfl]; exact g1
    · rw [if_neg w0]
      by_cases w1 : w = 1
      · rw [w1, if_pos rfl]; exact g2
      · rw [if_neg w1, show w = 2 from by omega]; exact g3
  rw [bJou_cell_0, zob rfl, h4]
  by_cases hc : k + 1 ≤ nx
  · have epl : pl nx k = nx - 1 - k := by unfold pl; omega
    have ea : nI nx - nI 1 - nI k = nI (nx - 1 - k) := by rw [pk_sub (by omega), pk_sub (by omega)]
    rw [ea, if_pos (show (0 : Int32) ≤ nI (nx - 1 - k) from nI_le (Nat.zero_le _) (by omega)), zob rfl, show FC 8 1 = some 9 from rfl, zrs, pk_mul, nI_add, zar (q := 9) (n := 150) rfl, zidx_n (by omega) (by decide), show (nx - 1 - k) * 3 + w = 3 * pl nx k + w from by omega, hv]
  · have epl : pl nx k = nx + 49 - k := by unfold pl; omega
    have hneg : ¬ (0 : Int32) ≤ nI nx - nI 1 - nI k := by
      rw [Int32.le_iff_toInt_le, Int32.sub_eq_add_neg, Int32.sub_eq_add_neg]
      have e1 : nI nx + -nI 1 + -nI k = nI nx - nI (k + 1) := by
        rw [← nI_add, Int32.sub_eq_add_neg, Int32.neg_add, Int32.sub_eq_add_neg]
        simp only [Int32.add_assoc, Int32.add_comm, i_lc]
      rw [e1, pk_sub_toInt (by omega) (by omega)]
      show ¬ (0 : Int) ≤ _
      omega
    rw [if_neg hneg, zob rfl, zob rfl, h0, j_rot, nI_add, pk_sub (by omega), pk_sub (by omega), show FC 8 1 = some 9 from rfl, zrs, pk_mul, nI_add, zar (q := 9) (n := 150) rfl, zidx_n (by omega) (by decide), show (nx + 50 - 1 - k) * 3 + w = 3 * pl nx k + w from by omega, hv]
end JOU2
