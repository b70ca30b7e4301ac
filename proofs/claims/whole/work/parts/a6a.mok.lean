-- EVERY METHOD'S WORDS (but Math.max, Math.min: those are called by rows of their own)
theorem hmok_0 : (List.range 12).all (fun j => mokb (0 + j)) = true := by decide +kernel
theorem hmok_1 : (List.range 12).all (fun j => mokb (12 + j)) = true := by decide +kernel
theorem hmok_2 : (List.range 12).all (fun j => mokb (24 + j)) = true := by decide +kernel
theorem hmok_3 : (List.range 12).all (fun j => mokb (36 + j)) = true := by decide +kernel
theorem hmok_4 : (List.range 12).all (fun j => mokb (48 + j)) = true := by decide +kernel
theorem hmok_5 : (List.range 12).all (fun j => mokb (60 + j)) = true := by decide +kernel
theorem hmok_6 : (List.range 12).all (fun j => mokb (72 + j)) = true := by decide +kernel
theorem hmok_7 : (List.range 12).all (fun j => mokb (84 + j)) = true := by decide +kernel
theorem hmok_8 : (List.range 12).all (fun j => mokb (96 + j)) = true := by decide +kernel
theorem hmok_9 : (List.range 12).all (fun j => mokb (108 + j)) = true := by decide +kernel
theorem hmok_10 : (List.range 12).all (fun j => mokb (120 + j)) = true := by decide +kernel
theorem hmok_11 : (List.range 12).all (fun j => mokb (132 + j)) = true := by decide +kernel
theorem hmok_12 : (List.range 12).all (fun j => mokb (144 + j)) = true := by decide +kernel
theorem hmok_13 : (List.range 12).all (fun j => mokb (156 + j)) = true := by decide +kernel
theorem hmok_14 : (List.range 12).all (fun j => mokb (168 + j)) = true := by decide +kernel
theorem hmok_15 : (List.range 12).all (fun j => mokb (180 + j)) = true := by decide +kernel
theorem hmok_16 : (List.range 12).all (fun j => mokb (192 + j)) = true := by decide +kernel
theorem hmok_17 : (List.range 12).all (fun j => mokb (204 + j)) = true := by decide +kernel
theorem hmok_18 : (List.range 12).all (fun j => mokb (216 + j)) = true := by decide +kernel
theorem hmok_19 : (List.range 4).all (fun j => mokb (228 + j)) = true := by decide +kernel
theorem hmok_20 : (List.range 1).all (fun j => mokb (234 + j)) = true := by decide +kernel
theorem hmok_all : ∀ mi, mi < nM → mi ≠ 232 → mi ≠ 233 → mokb mi = true := by
  intro mi h n1 n2
  have h : mi < 235 := h
  by_cases h0 : mi < 12
  · have h2 := List.all_eq_true.mp hmok_0 (mi - 0) (List.mem_range.mpr (by omega))
    rw [Nat.add_sub_cancel' (by omega : 0 ≤ mi)] at h2
    exact h2
  by_cases h1 : mi < 24
  · have h2 := List.all_eq_true.mp hmok_1 (mi - 12) (List.mem_range.mpr (by omega))
    rw [Nat.add_sub_cancel' (by omega : 12 ≤ mi)] at h2
    exact h2
  by_cases h2 : mi < 36
  · have h2 := List.all_eq_true.mp hmok_2 (mi - 24) (List.mem_range.mpr (by omega))
    rw [Nat.add_sub_cancel' (by omega : 24 ≤ mi)] at h2
    exact h2
  by_cases h3 : mi < 48
  · have h2 := List.all_eq_true.mp hmok_3 (mi - 36) (List.mem_range.mpr (by omega))
    rw [Nat.add_sub_cancel' (by omega : 36 ≤ mi)] at h2
    exact h2
  by_cases h4 : mi < 60
  · have h2 := List.all_eq_true.mp hmok_4 (mi - 48) (List.mem_range.mpr (by omega))
    rw [Nat.add_sub_cancel' (by omega : 48 ≤ mi)] at h2
    exact h2
  by_cases h5 : mi < 72
  · have h2 := List.all_eq_true.mp hmok_5 (mi - 60) (List.mem_range.mpr (by omega))
    rw [Nat.add_sub_cancel' (by omega : 60 ≤ mi)] at h2
    exact h2
  by_cases h6 : mi < 84
  · have h2 := List.all_eq_true.mp hmok_6 (mi - 72) (List.mem_range.mpr (by omega))
    rw [Nat.add_sub_cancel' (by omega : 72 ≤ mi)] at h2
    exact h2
  by_cases h7 : mi < 96
  · have h2 := List.all_eq_true.mp hmok_7 (mi - 84) (List.mem_range.mpr (by omega))
    rw [Nat.add_sub_cancel' (by omega : 84 ≤ mi)] at h2
    exact h2
  by_cases h8 : mi < 108
  · have h2 := List.all_eq_true.mp hmok_8 (mi - 96) (List.mem_range.mpr (by omega))
    rw [Nat.add_sub_cancel' (by omega : 96 ≤ mi)] at h2
    exact h2
  by_cases h9 : mi < 120
  · have h2 := List.all_eq_true.mp hmok_9 (mi - 108) (List.mem_range.mpr (by omega))
    rw [Nat.add_sub_cancel' (by omega : 108 ≤ mi)] at h2
    exact h2
  by_cases h10 : mi < 132
  · have h2 := List.all_eq_true.mp hmok_10 (mi - 120) (List.mem_range.mpr (by omega))
    rw [Nat.add_sub_cancel' (by omega : 120 ≤ mi)] at h2
    exact h2
  by_cases h11 : mi < 144
  · have h2 := List.all_eq_true.mp hmok_11 (mi - 132) (List.mem_range.mpr (by omega))
    rw [Nat.add_sub_cancel' (by omega : 132 ≤ mi)] at h2
    exact h2
  by_cases h12 : mi < 156
  · have h2 := List.all_eq_true.mp hmok_12 (mi - 144) (List.mem_range.mpr (by omega))
    rw [Nat.add_sub_cancel' (by omega : 144 ≤ mi)] at h2
    exact h2
  by_cases h13 : mi < 168
  · have h2 := List.all_eq_true.mp hmok_13 (mi - 156) (List.mem_range.mpr (by omega))
    rw [Nat.add_sub_cancel' (by omega : 156 ≤ mi)] at h2
    exact h2
  by_cases h14 : mi < 180
  · have h2 := List.all_eq_true.mp hmok_14 (mi - 168) (List.mem_range.mpr (by omega))
    rw [Nat.add_sub_cancel' (by omega : 168 ≤ mi)] at h2
    exact h2
  by_cases h15 : mi < 192
  · have h2 := List.all_eq_true.mp hmok_15 (mi - 180) (List.mem_range.mpr (by omega))
    rw [Nat.add_sub_cancel' (by omega : 180 ≤ mi)] at h2
    exact h2
  by_cases h16 : mi < 204
  · have h2 := List.all_eq_true.mp hmok_16 (mi - 192) (List.mem_range.mpr (by omega))
    rw [Nat.add_sub_cancel' (by omega : 192 ≤ mi)] at h2
    exact h2
  by_cases h17 : mi < 216
  · have h2 := List.all_eq_true.mp hmok_17 (mi - 204) (List.mem_range.mpr (by omega))
    rw [Nat.add_sub_cancel' (by omega : 204 ≤ mi)] at h2
    exact h2
  by_cases h18 : mi < 228
  · have h2 := List.all_eq_true.mp hmok_18 (mi - 216) (List.mem_range.mpr (by omega))
    rw [Nat.add_sub_cancel' (by omega : 216 ≤ mi)] at h2
    exact h2
  by_cases h19 : mi < 232
  · have h2 := List.all_eq_true.mp hmok_19 (mi - 228) (List.mem_range.mpr (by omega))
    rw [Nat.add_sub_cancel' (by omega : 228 ≤ mi)] at h2
    exact h2
  have h2 := List.all_eq_true.mp hmok_20 (mi - 234) (List.mem_range.mpr (by omega))
  rw [Nat.add_sub_cancel' (by omega : 234 ≤ mi)] at h2
  exact h2
