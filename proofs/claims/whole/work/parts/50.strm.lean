section STM
variable {bs : Nat} {ra : Nat → Nat} {l : Launch}
theorem mS_coder (i : Nat) (hi : i < 10) : Met l yS_coder wS_coder (rmS 0) (PcS bs ra [.ref (ra (1020 + i))]) (QcO (some (.int 0))) 0 0 (fun _ => False) := by
  refine Met.ofW (cc := cS_coder) (maxL := 1) (ret := some .byte) (by decide) rfl ?_
  intro p e s m args below meth c s₁ B hml hv
  obtain ⟨rfl, hXS⟩ := hv
  have hx := B.exec
  have hb := B.bytes
  have hr := B.returns
  have hts0 := atoms_spec (ws := wS_coder) B.pre
  have hts : ∀ w ∈ lw_gd, w.before ([.ref (ra (1020 + i))] : List Value).toArray s = true := fun w hw => hts0 w (List.mem_cons_of_mem _ hw)
  have hown : s.vm.findClass "java/lang/String" = some m.cls := findClass_of_methodNamed B.named
  have hlocks := B.notSynchronized
  have hl := lv_entry ([.ref (ra (1020 + i))] : List Value) (n := 1) (Nat.le_of_ble_eq_true rfl)
  rw [lg_entry_eq]
  generalize (lg_sl ([.ref (ra (1020 + i))] : List Value) ++ List.replicate (1 - (lg_sl ([.ref (ra (1020 + i))] : List Value)).length) Slot.unset).toArray = ls at hl ⊢
  have hl : lv_has ls 1 [(0, .ref (ra (1020 + i)))] := hl
  obtain ⟨hO, hC, hV, hT⟩ := hXS.1.1 i hi
  refine va_gets hx hb hXS.2.1 va_S.rf hown (hts _ (gd_in fS_comp rfl)) (fun _ h9 => h9) dS_coder_0 ?_
  refine lv_if_eq (tgt := 13) hx hb dS_coder_3 (by decide) (fun z => absurd z (by decide)) (fun _ => ?_)
  refine lv_aload_n hx hb dS_coder_6 rfl (lv_at hl 0 rfl) ?_
  refine vk_getf hx hb hC va_S.rf hown (hts _ (gd_in fS_coder rfl)) (fun _ h9 => h9) dS_coder_7 ?_
  refine lv_goto (tgt := 14) hx hb dS_coder_10 (by decide) ?_
  exact W.zret (ty := .byte) hx hb hr rfl (fun t ht hW => ⟨rfl, ht⟩) (fun q hq => by cases hq) dS_coder_14
theorem mS_isLatin1 (i : Nat) (hi : i < 10) : Met l yS_isLatin1 wS_isLatin1 (rmS 0) (PcS bs ra [.ref (ra (1020 + i))]) (QcO (some (.int 1))) 0 0 (fun _ => False) := by
  refine Met.ofW (cc := cS_isLatin1) (maxL := 1) (ret := some .boolean) (by decide) rfl ?_
  intro p e s m args below meth c s₁ B hml hv
  obtain ⟨rfl, hXS⟩ := hv
  have hx := B.exec
  have hb := B.bytes
  have hr := B.returns
  have hts0 := atoms_spec (ws := wS_isLatin1) B.pre
  have hts : ∀ w ∈ lw_gd, w.before ([.ref (ra (1020 + i))] : List Value).toArray s = true := fun w hw => hts0 w (List.mem_cons_of_mem _ hw)
  have hown : s.vm.findClass "java/lang/String" = some m.cls := findClass_of_methodNamed B.named
  have hlocks := B.notSynchronized
  have hl := lv_entry ([.ref (ra (1020 + i))] : List Value) (n := 1) (Nat.le_of_ble_eq_true rfl)
  rw [lg_entry_eq]
  generalize (lg_sl ([.ref (ra (1020 + i))] : List Value) ++ List.replicate (1 - (lg_sl ([.ref (ra (1020 + i))] : List Value)).length) Slot.unset).toArray = ls at hl ⊢
  have hl : lv_has ls 1 [(0, .ref (ra (1020 + i)))] := hl
  obtain ⟨hO, hC, hV, hT⟩ := hXS.1.1 i hi
  refine va_gets hx hb hXS.2.1 va_S.rf hown (hts _ (gd_in fS_comp rfl)) (fun _ h9 => h9) dS_isLatin1_0 ?_
  refine lv_if_eq (tgt := 17) hx hb dS_isLatin1_3 (by decide) (fun z => absurd z (by decide)) (fun _ => ?_)
  refine lv_aload_n hx hb dS_isLatin1_6 rfl (lv_at hl 0 rfl) ?_
  refine vk_getf hx hb hC va_S.rf hown (hts _ (gd_in fS_coder rfl)) (fun _ h9 => h9) dS_isLatin1_7 ?_
  refine lv_if_ne (tgt := 17) hx hb dS_isLatin1_10 (by decide) (fun z => absurd rfl z) (fun _ => ?_)
  refine lv_iconst (v := 1) hx hb dS_isLatin1_13 (by decide) ?_
  refine lv_goto (tgt := 18) hx hb dS_isLatin1_14 (by decide) ?_
  exact W.zret (ty := .boolean) hx hb hr rfl (fun t ht hW => ⟨rfl, ht⟩) (fun q hq => by cases hq) dS_isLatin1_18
theorem slen_ok : ∀ i, i < 10 → nI (slen.getD i 0) >>> ((0 : Int32) &&& 31) = nI (slen.getD i 0) ∧ slen.getD i 0 < 10 := by decide +kernel
theorem mS_length (i : Nat) (hi : i < 10) : Met l yS_length wS_length (rmS 1) (PcS bs ra [.ref (ra (1020 + i))]) (QcO (some (.int (nI (slen.getD i 0))))) 0 0 (fun _ => False) := by
  refine Met.ofW (cc := cS_length) (maxL := 1) (ret := some .int) (by decide) rfl ?_
  intro p e s m args below meth c s₁ B hml hv
  obtain ⟨rfl, hXS⟩ := hv
  have hx := B.exec
  have hb := B.bytes
  have hr := B.returns
  have hts0 := atoms_spec (ws := wS_length) B.pre
  have hts : ∀ w ∈ lw_gd, w.before ([.ref (ra (1020 + i))] : List Value).toArray s = true := fun w hw => hts0 w (List.mem_cons_of_mem _ hw)
  have hown : s.vm.findClass "java/lang/String" = some m.cls := findClass_of_methodNamed B.named
  have hlocks := B.notSynchronized
  have hl := lv_entry ([.ref (ra (1020 + i))] : List Value) (n := 1) (Nat.le_of_ble_eq_true rfl)
  rw [lg_entry_eq]
  generalize (lg_sl ([.ref (ra (1020 + i))] : List Value) ++ List.replicate (1 - (lg_sl ([.ref (ra (1020 + i))] : List Value)).length) Slot.unset).toArray = ls at hl ⊢
  have hl : lv_has ls 1 [(0, .ref (ra (1020 + i)))] := hl
  obtain ⟨hO, hC, hV, hT⟩ := hXS.1.1 i hi
  refine lv_aload_n hx hb dS_length_0 rfl (lv_at hl 0 rfl) ?_
  refine vk_getf hx hb hV va_S.rf hown (hts _ (gd_in fS_value rfl)) (fun _ h9 => h9) dS_length_1 ?_
  refine va_tlen hx hb hT va_S.rf (v := nI (slen.getD i 0)) rfl dS_length_4 ?_
  refine lv_aload_n hx hb dS_length_5 rfl (lv_at hl 0 rfl) ?_
  refine pureV (As := []) (n := 0) hx hb hml hown hts hXS hi (mS_coder i hi) rfl kS_coder iS_coder sS_coder lS_coder (by decide +kernel) (by decide) rfl hl.1 (Nat.le_of_ble_eq_true rfl) ⟨Nat.le_refl _, by decide, Nat.le_refl _, Nat.le_refl _⟩ dS_length_6 ?_
  refine lv_ishr hx hb dS_length_9 ?_
  rw [(slen_ok i hi).1]
  exact W.iret hx hb hr (fun t ht hW => ⟨rfl, ht⟩) (fun q hq => by cases hq) dS_length_10
theorem mS_pchk (a b : Int32) (u0 : Value) (hw : u0 = .null ∨ ∃ t, u0 = .ref t) (h0 : 0 ≤ a) (h1 : a < b) : Met l yS_pchk wS_pchk (rmS 0) (PcS bs ra [.int a, .int b, u0]) (QcO (some (.int a))) 0 0 (fun _ => False) := by
  refine Met.ofW (cc := cS_pchk) (maxL := 3) (ret := some .int) (by decide) rfl ?_
  intro p e s m args below meth c s₁ B hml hv
  obtain ⟨rfl, hXS⟩ := hv
  have hx := B.exec
  have hb := B.bytes
  have hr := B.returns
  have hts0 := atoms_spec (ws := wS_pchk) B.pre
  have hts : ∀ w ∈ lw_gd, w.before ([.int a, .int b, u0] : List Value).toArray s = true := fun w hw => hts0 w (List.mem_cons_of_mem _ hw)
  have hown : s.vm.findClass "jdk/internal/util/Preconditions" = some m.cls := findClass_of_methodNamed B.named
  have hlocks := B.notSynchronized
  have hl := lv_entry ([.int a, .int b, u0] : List Value) (n := 3) (by rcases hw with rfl | ⟨t, rfl⟩ <;> exact Nat.le_of_ble_eq_true rfl)
  rw [lg_entry_eq]
  generalize (lg_sl ([.int a, .int b, u0] : List Value) ++ List.replicate (3 - (lg_sl ([.int a, .int b, u0] : List Value)).length) Slot.unset).toArray = ls at hl ⊢
  have hl : lv_has ls 3 [(0, .int a), (1, .int b), (2, u0)] := hl
  refine lv_iload_n hx hb dS_pchk_0 rfl (lv_at hl 0 rfl) ?_
  refine lv_if_lt (tgt := 9) hx hb dS_pchk_1 (by decide) (fun z => absurd h0 (Int32.not_le.mpr z)) (fun _ => ?_)
  refine lv_iload_n hx hb dS_pchk_4 rfl (lv_at hl 0 rfl) ?_
  refine lv_iload_n hx hb dS_pchk_5 rfl (lv_at hl 1 rfl) ?_
  refine lv_icmp_lt (tgt := 16) hx hb dS_pchk_6 (by decide) (fun _ => ?_) (fun z => absurd h1 z)
  refine lv_iload_n hx hb dS_pchk_16 rfl (lv_at hl 0 rfl) ?_
  exact W.iret hx hb hr (fun t ht hW => ⟨rfl, ht⟩) (fun q hq => by cases hq) dS_pchk_17
theorem mS_schk (a b : Int32) (h0 : 0 ≤ a) (h1 : a < b) : Met l yS_schk wS_schk (rmS 1) (PcS bs ra [.int a, .int b]) (QcO none) 0 0 (fun _ => False) := by
  refine Met.ofW (cc := cS_schk) (maxL := 2) (ret := none) (by decide) rfl ?_
  intro p e s m args below meth c s₁ B hml hv
  obtain ⟨rfl, hXS⟩ := hv
  have hx := B.exec
  have hb := B.bytes
  have hr := B.returns
  have hts0 := atoms_spec (ws := wS_schk) B.pre
  have hts : ∀ w ∈ lw_gd, w.before ([.int a, .int b] : List Value).toArray s = true := fun w hw => hts0 w (List.mem_cons_of_mem _ hw)
  have hown : s.vm.findClass "java/lang/String" = some m.cls := findClass_of_methodNamed B.named
  have hlocks := B.notSynchronized
  have hl := lv_entry ([.int a, .int b] : List Value) (n := 2) (Nat.le_of_ble_eq_true rfl)
  rw [lg_entry_eq]
  generalize (lg_sl ([.int a, .int b] : List Value) ++ List.replicate (2 - (lg_sl ([.int a, .int b] : List Value)).length) Slot.unset).toArray = ls at hl ⊢
  have hl : lv_has ls 2 [(0, .int a), (1, .int b)] := hl
  refine lv_iload_n hx hb dS_schk_0 rfl (lv_at hl 0 rfl) ?_
  refine lv_iload_n hx hb dS_schk_1 rfl (lv_at hl 1 rfl) ?_
  have go : ∀ w : Value, (w = .null ∨ ∃ t, w = .ref t) → va_Z "jdk/internal/util/Preconditions" "SIOOBE_FORMATTER" "Ljava/util/function/BiFunction;" w (zA bs) s s.heap → W p l e (headSpec wS_schk (rmS 1)).room s m (([.int a, .int b] : List Value).toArray) below meth c s.heap [] 0 0 (MQ below (QcO none) (([.int a, .int b] : List Value).toArray) s 0 0 (fun _ => False)) (F0 m 2 ls [.int b, .int a]) := by
    intro w hw hZ
    refine va_gets hx hb hZ va_S.rf hown (hts _ (gd_in fS_sio rfl)) (fun _ h9 => h9) dS_schk_2 ?_
    refine pureS (As := [.int a, .int b, w]) (rest := []) (n := 3) hx hb hml hown hts hXS (mS_pchk a b w hw h0 h1) kS_pchk tS_pchk nS_pre lS_pchk (by decide) (by decide +kernel) (by decide) rfl hl.1 (Nat.le_of_ble_eq_true rfl) ⟨Nat.le_refl _, by decide, Nat.le_refl _, Nat.le_refl _⟩ dS_schk_5 ?_
    refine lv_pop hx hb dS_schk_8 rfl ?_
    exact W.vret hx hb hr (fun t ht hW => ⟨rfl, ht⟩) (fun q hq => by cases hq) dS_schk_9
  rcases hXS.2.2 with hZ | ⟨t, hZ⟩
  · exact go _ (Or.inl rfl) hZ
  · exact go _ (Or.inr ⟨t, rfl⟩) hZ
theorem mS_lch (i k : Nat) (hi : i < 10) (hk : k < slen.getD i 0) : Met l yS_lch wS_lch (rmS 2) (PcS bs ra [.ref (ra (1030 + i)), .int (nI k)]) (QcO (some (.int (sch i k)))) 0 0 (fun _ => False) := by
  refine Met.ofW (cc := cS_lch) (maxL := 2) (ret := some .char) (by decide) rfl ?_
  intro p e s m args below meth c s₁ B hml hv
  obtain ⟨rfl, hXS⟩ := hv
  have hx := B.exec
  have hb := B.bytes
  have hr := B.returns
  have hts0 := atoms_spec (ws := wS_lch) B.pre
  have hts : ∀ w ∈ lw_gd, w.before ([.ref (ra (1030 + i)), .int (nI k)] : List Value).toArray s = true := fun w hw => hts0 w (List.mem_cons_of_mem _ hw)
  have hown : s.vm.findClass "java/lang/StringLatin1" = some m.cls := findClass_of_methodNamed B.named
  have hlocks := B.notSynchronized
  have hl := lv_entry ([.ref (ra (1030 + i)), .int (nI k)] : List Value) (n := 2) (Nat.le_of_ble_eq_true rfl)
  rw [lg_entry_eq]
  generalize (lg_sl ([.ref (ra (1030 + i)), .int (nI k)] : List Value) ++ List.replicate (2 - (lg_sl ([.ref (ra (1030 + i)), .int (nI k)] : List Value)).length) Slot.unset).toArray = ls at hl ⊢
  have hl : lv_has ls 2 [(0, .ref (ra (1030 + i))), (1, .int (nI k))] := hl
  obtain ⟨hO, hC, hV, hT⟩ := hXS.1.1 i hi
  have hsl := (slen_ok i hi).2
  refine lv_iload_n hx hb dS_lch_0 rfl (lv_at hl 1 rfl) ?_
  refine lv_aload_n hx hb dS_lch_1 rfl (lv_at hl 0 rfl) ?_
  refine va_tlen hx hb hT va_S.rf (v := nI (slen.getD i 0)) rfl dS_lch_2 ?_
  refine pureS (As := [.int (nI k), .int (nI (slen.getD i 0))]) (rest := []) (n := 2) hx hb hml hown hts hXS (mS_schk _ _ (nI_pos' (by omega)) (nI_lt hk (by omega))) kS_schk tS_schk nS_str lS_schk (by decide) (by decide +kernel) (by decide) rfl hl.1 (Nat.le_of_ble_eq_true rfl) ⟨Nat.le_refl _, by decide, Nat.le_refl _, Nat.le_refl _⟩ dS_lch_3 ?_
  refine lv_aload_n hx hb dS_lch_6 rfl (lv_at hl 0 rfl) ?_
  refine lv_iload_n hx hb dS_lch_7 rfl (lv_at hl 1 rfl) ?_
  refine va_tb hx hb hT va_S.rf (vp_in_nI hk (by omega)) (v := .int (sch i k)) (by rw [nI_clamp (by omega)]; rfl) dS_lch_8 ?_
  refine lv_sipush (v := 255) hx hb dS_lch_9 (by decide) ?_
  refine lv_iand hx hb dS_lch_12 ?_
  refine lv_i2c hx hb dS_lch_13 (sch_ok i hi k hk).1 ?_
  exact W.zret (ty := .char) hx hb hr (sch_ok i hi k hk).2 (fun t ht hW => ⟨rfl, ht⟩) (fun q hq => by cases hq) dS_lch_14
theorem mS_charAt (i k : Nat) (hi : i < 10) (hk : k < slen.getD i 0) : Met l yS_charAt wS_charAt (rmS 3) (PcS bs ra [.ref (ra (1020 + i)), .int (nI k)]) (QcO (some (.int (sch i k)))) 0 0 (fun _ => False) := by
  refine Met.ofW (cc := cS_charAt) (maxL := 2) (ret := some .char) (by decide) rfl ?_
  intro p e s m args below meth c s₁ B hml hv
  obtain ⟨rfl, hXS⟩ := hv
  have hx := B.exec
  have hb := B.bytes
  have hr := B.returns
  have hts0 := atoms_spec (ws := wS_charAt) B.pre
  have hts : ∀ w ∈ lw_gd, w.before ([.ref (ra (1020 + i)), .int (nI k)] : List Value).toArray s = true := fun w hw => hts0 w (List.mem_cons_of_mem _ hw)
  have hown : s.vm.findClass "java/lang/String" = some m.cls := findClass_of_methodNamed B.named
  have hlocks := B.notSynchronized
  have hl := lv_entry ([.ref (ra (1020 + i)), .int (nI k)] : List Value) (n := 2) (Nat.le_of_ble_eq_true rfl)
  rw [lg_entry_eq]
  generalize (lg_sl ([.ref (ra (1020 + i)), .int (nI k)] : List Value) ++ List.replicate (2 - (lg_sl ([.ref (ra (1020 + i)), .int (nI k)] : List Value)).length) Slot.unset).toArray = ls at hl ⊢
  have hl : lv_has ls 2 [(0, .ref (ra (1020 + i))), (1, .int (nI k))] := hl
  obtain ⟨hO, hC, hV, hT⟩ := hXS.1.1 i hi
  refine lv_aload_n hx hb dS_charAt_0 rfl (lv_at hl 0 rfl) ?_
  refine pureV (As := []) (rest := []) (n := 0) hx hb hml hown hts hXS hi (mS_isLatin1 i hi) rfl kS_isLatin1 iS_isLatin1 sS_isLatin1 lS_isLatin1 (by decide +kernel) (by decide) rfl hl.1 (Nat.le_of_ble_eq_true rfl) ⟨by decide, by decide, Nat.le_refl _, Nat.le_refl _⟩ dS_charAt_1 ?_
  refine lv_if_eq (tgt := 16) hx hb dS_charAt_4 (by decide) (fun z => absurd z (by decide)) (fun _ => ?_)
  refine lv_aload_n hx hb dS_charAt_7 rfl (lv_at hl 0 rfl) ?_
  refine vk_getf hx hb hV va_S.rf hown (hts _ (gd_in fS_value rfl)) (fun _ h9 => h9) dS_charAt_8 ?_
  refine lv_iload_n hx hb dS_charAt_11 rfl (lv_at hl 1 rfl) ?_
  refine pureS (As := [.ref (ra (1030 + i)), .int (nI k)]) (rest := []) (n := 2) hx hb hml hown hts hXS (mS_lch i k hi hk) kS_lch tS_lch nS_lat lS_lch (by decide) (by decide +kernel) (by decide) rfl hl.1 (Nat.le_of_ble_eq_true rfl) ⟨Nat.le_refl _, by decide, Nat.le_refl _, Nat.le_refl _⟩ dS_charAt_12 ?_
  exact W.zret (ty := .char) hx hb hr (sch_ok i hi k hk).2 (fun t ht hW => ⟨rfl, ht⟩) (fun q hq => by cases hq) dS_charAt_15
end STM
