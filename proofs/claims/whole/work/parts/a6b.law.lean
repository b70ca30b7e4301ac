-- THE LAW'S OWN TABLE
theorem k_law0 : (List.range 64).all (fun j => opk "LateBinderLaw" false ret code (0 + j) (tab 235 (0 + j))) = true := by decide +kernel
theorem k_law1 : (List.range 64).all (fun j => opk "LateBinderLaw" false ret code (64 + j) (tab 235 (64 + j))) = true := by decide +kernel
theorem k_law2 : (List.range 64).all (fun j => opk "LateBinderLaw" false ret code (128 + j) (tab 235 (128 + j))) = true := by decide +kernel
theorem k_law3 : (List.range 64).all (fun j => opk "LateBinderLaw" false ret code (192 + j) (tab 235 (192 + j))) = true := by decide +kernel
theorem k_law4 : (List.range 64).all (fun j => opk "LateBinderLaw" false ret code (256 + j) (tab 235 (256 + j))) = true := by decide +kernel
theorem k_law5 : (List.range 64).all (fun j => opk "LateBinderLaw" false ret code (320 + j) (tab 235 (320 + j))) = true := by decide +kernel
theorem k_law6 : (List.range 64).all (fun j => opk "LateBinderLaw" false ret code (384 + j) (tab 235 (384 + j))) = true := by decide +kernel
theorem k_law7 : (List.range 64).all (fun j => opk "LateBinderLaw" false ret code (448 + j) (tab 235 (448 + j))) = true := by decide +kernel
theorem k_law8 : (List.range 64).all (fun j => opk "LateBinderLaw" false ret code (512 + j) (tab 235 (512 + j))) = true := by decide +kernel
theorem k_law9 : (List.range 64).all (fun j => opk "LateBinderLaw" false ret code (576 + j) (tab 235 (576 + j))) = true := by decide +kernel
theorem k_law10 : (List.range 64).all (fun j => opk "LateBinderLaw" false ret code (640 + j) (tab 235 (640 + j))) = true := by decide +kernel
theorem k_law11 : (List.range 64).all (fun j => opk "LateBinderLaw" false ret code (704 + j) (tab 235 (704 + j))) = true := by decide +kernel
theorem k_law12 : (List.range 64).all (fun j => opk "LateBinderLaw" false ret code (768 + j) (tab 235 (768 + j))) = true := by decide +kernel
theorem k_law13 : (List.range 64).all (fun j => opk "LateBinderLaw" false ret code (832 + j) (tab 235 (832 + j))) = true := by decide +kernel
theorem k_law14 : (List.range 64).all (fun j => opk "LateBinderLaw" false ret code (896 + j) (tab 235 (896 + j))) = true := by decide +kernel
theorem k_law15 : (List.range 64).all (fun j => opk "LateBinderLaw" false ret code (960 + j) (tab 235 (960 + j))) = true := by decide +kernel
theorem k_law16 : (List.range 64).all (fun j => opk "LateBinderLaw" false ret code (1024 + j) (tab 235 (1024 + j))) = true := by decide +kernel
theorem k_law17 : (List.range 64).all (fun j => opk "LateBinderLaw" false ret code (1088 + j) (tab 235 (1088 + j))) = true := by decide +kernel
theorem zln_law : zln 235 ≤ 1152 := by decide +kernel
theorem hck_law : ∀ pc, opk "LateBinderLaw" false ret code pc (tab 235 pc) = true := by
  intro pc
  by_cases hz : pc < zln 235
  case neg =>
    rw [tab_out hz]
    rfl
  have hz2 := Nat.lt_of_lt_of_le hz zln_law
  by_cases h0 : pc < 64
  · have h2 := List.all_eq_true.mp k_law0 (pc - 0) (List.mem_range.mpr (by omega))
    rw [Nat.add_sub_cancel' (by omega : 0 ≤ pc)] at h2
    exact h2
  by_cases h1 : pc < 128
  · have h2 := List.all_eq_true.mp k_law1 (pc - 64) (List.mem_range.mpr (by omega))
    rw [Nat.add_sub_cancel' (by omega : 64 ≤ pc)] at h2
    exact h2
  by_cases h2 : pc < 192
  · have h2 := List.all_eq_true.mp k_law2 (pc - 128) (List.mem_range.mpr (by omega))
    rw [Nat.add_sub_cancel' (by omega : 128 ≤ pc)] at h2
    exact h2
  by_cases h3 : pc < 256
  · have h2 := List.all_eq_true.mp k_law3 (pc - 192) (List.mem_range.mpr (by omega))
    rw [Nat.add_sub_cancel' (by omega : 192 ≤ pc)] at h2
    exact h2
  by_cases h4 : pc < 320
  · have h2 := List.all_eq_true.mp k_law4 (pc - 256) (List.mem_range.mpr (by omega))
    rw [Nat.add_sub_cancel' (by omega : 256 ≤ pc)] at h2
    exact h2
  by_cases h5 : pc < 384
  · have h2 := List.all_eq_true.mp k_law5 (pc - 320) (List.mem_range.mpr (by omega))
    rw [Nat.add_sub_cancel' (by omega : 320 ≤ pc)] at h2
    exact h2
  by_cases h6 : pc < 448
  · have h2 := List.all_eq_true.mp k_law6 (pc - 384) (List.mem_range.mpr (by omega))
    rw [Nat.add_sub_cancel' (by omega : 384 ≤ pc)] at h2
    exact h2
  by_cases h7 : pc < 512
  · have h2 := List.all_eq_true.mp k_law7 (pc - 448) (List.mem_range.mpr (by omega))
    rw [Nat.add_sub_cancel' (by omega : 448 ≤ pc)] at h2
    exact h2
  by_cases h8 : pc < 576
  · have h2 := List.all_eq_true.mp k_law8 (pc - 512) (List.mem_range.mpr (by omega))
    rw [Nat.add_sub_cancel' (by omega : 512 ≤ pc)] at h2
    exact h2
  by_cases h9 : pc < 640
  · have h2 := List.all_eq_true.mp k_law9 (pc - 576) (List.mem_range.mpr (by omega))
    rw [Nat.add_sub_cancel' (by omega : 576 ≤ pc)] at h2
    exact h2
  by_cases h10 : pc < 704
  · have h2 := List.all_eq_true.mp k_law10 (pc - 640) (List.mem_range.mpr (by omega))
    rw [Nat.add_sub_cancel' (by omega : 640 ≤ pc)] at h2
    exact h2
  by_cases h11 : pc < 768
  · have h2 := List.all_eq_true.mp k_law11 (pc - 704) (List.mem_range.mpr (by omega))
    rw [Nat.add_sub_cancel' (by omega : 704 ≤ pc)] at h2
    exact h2
  by_cases h12 : pc < 832
  · have h2 := List.all_eq_true.mp k_law12 (pc - 768) (List.mem_range.mpr (by omega))
    rw [Nat.add_sub_cancel' (by omega : 768 ≤ pc)] at h2
    exact h2
  by_cases h13 : pc < 896
  · have h2 := List.all_eq_true.mp k_law13 (pc - 832) (List.mem_range.mpr (by omega))
    rw [Nat.add_sub_cancel' (by omega : 832 ≤ pc)] at h2
    exact h2
  by_cases h14 : pc < 960
  · have h2 := List.all_eq_true.mp k_law14 (pc - 896) (List.mem_range.mpr (by omega))
    rw [Nat.add_sub_cancel' (by omega : 896 ≤ pc)] at h2
    exact h2
  by_cases h15 : pc < 1024
  · have h2 := List.all_eq_true.mp k_law15 (pc - 960) (List.mem_range.mpr (by omega))
    rw [Nat.add_sub_cancel' (by omega : 960 ≤ pc)] at h2
    exact h2
  by_cases h16 : pc < 1088
  · have h2 := List.all_eq_true.mp k_law16 (pc - 1024) (List.mem_range.mpr (by omega))
    rw [Nat.add_sub_cancel' (by omega : 1024 ≤ pc)] at h2
    exact h2
  have h2 := List.all_eq_true.mp k_law17 (pc - 1088) (List.mem_range.mpr (by omega))
  rw [Nat.add_sub_cancel' (by omega : 1088 ≤ pc)] at h2
  exact h2
