-- packed(text)
def pk (i : Nat) : Nat → Int64
  | 0 => 0
  | k + 1 => 256 * pk i k + (sch i k).toInt64
theorem pk_ok : ∀ i, i < 10 → pk i (slen.getD i 0) = ztxt (1020 + i) := by decide +kernel
section PCK
variable {bs : Nat} {ra : Nat → Nat} {cA : Nat → ClassId} {dC : Nat → ClassId} {dI : Nat → Nat → Nat} {ρ : Nat × (Nat → Int32)} {X : State → Heap → Prop} {l : Launch}
set_option maxHeartbeats 2000000 in
theorem mS_packed (hX : ∀ U H, X U H → XS bs ra U H) (i : Nat) (hi : i < 10) (σ : Sg) : Met l yS_packed wS_packed (rmE 0 σ σ) (PreE bs ra cA dC dI ρ X [.ref (1020 + i)] σ) (PostE bs ra cA dC dI [.long (ztxt (1020 + i))] σ) (mcE σ σ) (msE σ σ) (zA bs) := by
  refine Met.ofW (cc := cS_packed) (maxL := 4) (ret := some .long) (by decide) rfl ?_
  intro p e s m args below meth c s₁ B hml hv
  obtain ⟨rfl, hP, hK, hST, hbs, hsz⟩ := hv
  have hx := B.exec
  have hb := B.bytes
  have hr := B.returns
  have hts0 := atoms_spec (ws := wS_packed) B.pre
  have e0 : ([Value.ref (1020 + i)] : List Value).map (trV bs ra) = [.ref (ra (1020 + i))] := by
    show [Value.ref (trN bs ra (1020 + i))] = _
    rw [trN_ge (by omega)]
  rw [e0] at hts0 ⊢
  have hts : ∀ w ∈ lw_gd, w.before ([.ref (ra (1020 + i))] : List Value).toArray s = true := fun w hw => hts0 w (List.mem_cons_of_mem _ hw)
  have hown : s.vm.findClass "LateBinderModel" = some m.cls := findClass_of_methodNamed B.named
  have hlocks := B.notSynchronized
  have hXS := hX _ _ hST.2.2.2.2.2
  have hm0 : mcE σ σ = 0 := Nat.sub_self _
  have hm1 : msE σ σ = 0 := Nat.sub_self _
  rw [hm0, hm1]
  have hl := lv_entry ([.ref (ra (1020 + i))] : List Value) (n := 4) (Nat.le_of_ble_eq_true rfl)
  rw [lg_entry_eq]
  generalize (lg_sl ([.ref (ra (1020 + i))] : List Value) ++ List.replicate (4 - (lg_sl ([.ref (ra (1020 + i))] : List Value)).length) Slot.unset).toArray = ls at hl ⊢
  have hl : lv_has ls 4 [(0, .ref (ra (1020 + i)))] := hl
  refine lv_lconst (v := 0) hx hb dS_packed_0 rfl ?_
  refine lv_lstore_n (lv' := [(1, .long 0), (0, .ref (ra (1020 + i)))]) hx hb dS_packed_1 rfl hl (by decide) rfl (fun ls hl => ?_)
  refine lv_iconst (v := 0) hx hb dS_packed_2 (by decide) ?_
  refine lv_istore_n (lv' := [(3, .int 0), (1, .long 0), (0, .ref (ra (1020 + i)))]) hx hb dS_packed_3 rfl hl (by decide) rfl (fun ls hl => ?_)
  have hsl := (slen_ok i hi).2
  have loop : ∀ (n k : Nat) (ls : Array Slot), k + n = slen.getD i 0 → lv_has ls 4 [(3, .int (nI k)), (1, .long (pk i k)), (0, .ref (ra (1020 + i)))] → W p l e (headSpec wS_packed (rmE 0 σ σ)).room s m ([.ref (ra (1020 + i))] : List Value).toArray below meth c s.heap [] 0 0 (MQ below (PostE bs ra cA dC dI [.long (ztxt (1020 + i))] σ) ([.ref (ra (1020 + i))] : List Value).toArray s 0 0 (zA bs)) (F0 m 4 ls []) := by
    intro n
    induction n with
    | zero =>
      intro k ls hk hl
      refine lv_iload_n hx hb dS_packed_4 rfl (lv_at hl 0 rfl) ?_
      refine lv_aload_n hx hb dS_packed_5 rfl (lv_at hl 2 rfl) ?_
      refine pureV (As := []) (n := 0) hx hb hml hown hts hXS hi (mS_length i hi) rfl kS_length iS_length sS_length lS_length (by decide +kernel) (by decide) rfl hl.1 (Nat.le_of_ble_eq_true rfl) ⟨Nat.le_of_ble_eq_true rfl, Nat.le_of_ble_eq_true rfl, Nat.zero_le _, Nat.zero_le _⟩ dS_packed_6 ?_
      refine lv_icmp_ge (tgt := 31) hx hb dS_packed_9 (by decide) (fun _ => ?_) (fun z => absurd (by rw [show k = slen.getD i 0 by omega]; exact Int32.le_refl _) z)
      refine lv_lload_n hx hb dS_packed_31 rfl (lv_at hl 1 rfl) ?_
      refine W.lret hx hb hr (fun t ht hW => ⟨?_, by rw [ht]; exact hP, va_S.rf.F ht⟩) (fun q hq => by cases hq) dS_packed_32
      rw [show k = slen.getD i 0 by omega, pk_ok i hi]
      rfl
    | succ n ih =>
      intro k ls hk hl
      refine lv_iload_n hx hb dS_packed_4 rfl (lv_at hl 0 rfl) ?_
      refine lv_aload_n hx hb dS_packed_5 rfl (lv_at hl 2 rfl) ?_
      refine pureV (As := []) (n := 0) hx hb hml hown hts hXS hi (mS_length i hi) rfl kS_length iS_length sS_length lS_length (by decide +kernel) (by decide) rfl hl.1 (Nat.le_of_ble_eq_true rfl) ⟨Nat.le_of_ble_eq_true rfl, Nat.le_of_ble_eq_true rfl, Nat.zero_le _, Nat.zero_le _⟩ dS_packed_6 ?_
      refine lv_icmp_ge (tgt := 31) hx hb dS_packed_9 (by decide) (fun z => absurd z (nI_ge (by omega) (by omega))) (fun _ => ?_)
      refine lv_ldc2 hx hb hown (hts _ (gd_in cS_256 rfl)) dS_packed_12 ?_
      refine lv_lload_n hx hb dS_packed_15 rfl (lv_at hl 1 rfl) ?_
      refine lv_lmul hx hb dS_packed_16 ?_
      refine lv_aload_n hx hb dS_packed_17 rfl (lv_at hl 2 rfl) ?_
      refine lv_iload_n hx hb dS_packed_18 rfl (lv_at hl 0 rfl) ?_
      refine pureV (As := [.int (nI k)]) (n := 1) hx hb hml hown hts hXS hi (mS_charAt i k hi (by omega)) rfl kS_charAt iS_charAt sS_charAt lS_charAt (by decide +kernel) (by decide) rfl hl.1 (Nat.le_of_ble_eq_true rfl) ⟨Nat.le_of_ble_eq_true rfl, Nat.le_of_ble_eq_true rfl, Nat.zero_le _, Nat.zero_le _⟩ dS_packed_19 ?_
      refine lv_i2l hx hb dS_packed_22 rfl ?_
      refine lv_ladd hx hb dS_packed_23 ?_
      refine lv_lstore_n (lv' := [(1, .long (pk i (k + 1))), (3, .int (nI k)), (0, .ref (ra (1020 + i)))]) hx hb dS_packed_24 rfl hl (by decide) rfl (fun ls hl => ?_)
      refine lv_iinc (v := nI k + 1) (lv' := [(3, .int (nI k + 1)), (1, .long (pk i (k + 1))), (0, .ref (ra (1020 + i)))]) hx hb dS_packed_25 hl (k := 1) rfl rfl (by decide) rfl (fun ls hl => ?_)
      refine lv_goto (tgt := 4) hx hb dS_packed_28 (by decide) ?_
      rw [nI_1] at hl
      exact ih (k + 1) ls (by omega) hl
  exact loop (slen.getD i 0) 0 ls (Nat.zero_add _) hl
end PCK
