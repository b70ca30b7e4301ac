-- Key.withCode
def zcd (i : Nat) : Int64 := match i with
  | 0 => 60492506
  | 1 => 67154904
  | 2 => 257
  | 3 => 7542361
  | 4 => 423
  | 5 => 9520
  | 6 => 243140
  | 7 => 5258
  | 8 => 144941
  | _ => 1420859
/-- the table of the constants, their codes -/
def XK (bs : Nat) (ra : Nat → Nat) (U : State) (H : Heap) : Prop := (∃ t : Nat, va_Z "LateBinder$Key" "ALL" "[LLateBinder$Key;" (.ref t) (zA bs) U H ∧ va_T (.object "LateBinder$Key") t 10 (fun i => .ref (ra (1000 + i))) (zA bs) U H) ∧ ∀ i : Nat, i < 10 → va_OF "LateBinder$Key" "code" "J" (.long (zcd i)) (ra (1000 + i)) (zA bs) U H
abbrev cKw : ByteArray := prog_4_method_4_code
def yKw : MethodName := ⟨"LateBinder$Key", "withCode", "(J)LLateBinder$Key;"⟩
theorem dK_0 : decode cKw 0 = .ok (.iconst 0, 1) := by decide +kernel
theorem dK_1 : decode cKw 1 = .ok (.istore_n 2, 1) := by decide +kernel
theorem dK_2 : decode cKw 2 = .ok (.iload_n 2, 1) := by decide +kernel
theorem dK_3 : decode cKw 3 = .ok (.getstatic 73, 3) := by decide +kernel
theorem dK_6 : decode cKw 6 = .ok (.arraylength, 1) := by decide +kernel
theorem dK_7 : decode cKw 7 = .ok (.if_icmp .ge 28, 3) := by decide +kernel
theorem dK_10 : decode cKw 10 = .ok (.getstatic 73, 3) := by decide +kernel
theorem dK_13 : decode cKw 13 = .ok (.iload_n 2, 1) := by decide +kernel
theorem dK_14 : decode cKw 14 = .ok (.aaload, 1) := by decide +kernel
theorem dK_15 : decode cKw 15 = .ok (.getfield 69, 3) := by decide +kernel
theorem dK_18 : decode cKw 18 = .ok (.lload_n 0, 1) := by decide +kernel
theorem dK_19 : decode cKw 19 = .ok (.lcmp, 1) := by decide +kernel
theorem dK_20 : decode cKw 20 = .ok (.ifCond .ne 9, 3) := by decide +kernel
theorem dK_23 : decode cKw 23 = .ok (.getstatic 73, 3) := by decide +kernel
theorem dK_26 : decode cKw 26 = .ok (.iload_n 2, 1) := by decide +kernel
theorem dK_27 : decode cKw 27 = .ok (.aaload, 1) := by decide +kernel
theorem dK_28 : decode cKw 28 = .ok (.areturn, 1) := by decide +kernel
theorem dK_29 : decode cKw 29 = .ok (.iinc 2 1, 3) := by decide +kernel
theorem dK_32 : decode cKw 32 = .ok (.goto (-30), 3) := by decide +kernel
theorem dK_35 : decode cKw 35 = .ok (.aconst_null, 1) := by decide +kernel
theorem dK_36 : decode cKw 36 = .ok (.areturn, 1) := by decide +kernel
theorem zkey_hit : ∀ i : Nat, i < 10 → zkey (zcd i) = some (1000 + i) := by decide +kernel
theorem zkey_mis (c : Int64) (h : ∀ i : Nat, i < 10 → c ≠ zcd i) : zkey c = none := by
  unfold zkey
  rw [if_neg (show ¬ c = 60492506 from h 0 (by decide)), if_neg (show ¬ c = 67154904 from h 1 (by decide)), if_neg (show ¬ c = 257 from h 2 (by decide)), if_neg (show ¬ c = 7542361 from h 3 (by decide)), if_neg (show ¬ c = 423 from h 4 (by decide)), if_neg (show ¬ c = 9520 from h 5 (by decide)), if_neg (show ¬ c = 243140 from h 6 (by decide)), if_neg (show ¬ c = 5258 from h 7 (by decide)), if_neg (show ¬ c = 144941 from h 8 (by decide)), if_neg (show ¬ c = 1420859 from h 9 (by decide))]
theorem lgc0 (x : Int64) : lg_cmp x x = 0 := by
  unfold lg_cmp
  rw [if_neg (fun z => Int64.lt_irrefl z), if_pos rfl]
section KEY
variable {bs : Nat} {ra : Nat → Nat} {cA : Nat → ClassId} {dC : Nat → ClassId} {dI : Nat → Nat → Nat} {ρ : Nat × (Nat → Int32)} {X : State → Heap → Prop}
variable {p : Program} {l : Launch} {e : Env} {R : Room} {s : State} {m : MethodId} {args : Array Value} {below : List Frame} {meth : Method} {c : Code} {H : Heap} {locs : List Loc} {cells slots : Nat} {Q : State → Prop}
theorem va_tq {cc : ByteArray} {t N pc : Nat} {f : Nat → Value} {A : Nat → Prop} {C : String} {ls : Array Slot} {rest : List Value} (hexec : p.tables.exec = Jvm.exec) (hb : c.code = cc) (hT : va_T (.object C) t N f A s s.heap) (hS : va_S A s.heap H locs) {i : Int32} (hin : vp_in i N) (hdg : decode cc pc = .ok (.aaload, 1))
    (kk : W p l e R s m args below meth c H locs cells slots Q (F0 m (pc + 1) ls (f i.toNatClampNeg :: rest))) : W p l e R s m args below meth c H locs cells slots Q (F0 m pc ls (.int i :: .ref t :: rest)) := by
  obtain ⟨cell, h1, h2, h3, h4, h5, h6, h7⟩ := hT.kept hS.2.1
  have hlt : i.toNatClampNeg < N := Nat.not_le.mp fun q => hin (Or.inr q)
  exact W.aald (ty := .object C) hexec hb h1 h2 rfl h3 (fun q => q.elim (fun q => hin (Or.inl q)) (fun q => by omega)) (h6 _ hlt) rfl rfl hdg kk
set_option maxHeartbeats 2000000 in
theorem key_met (hX : ∀ U H, X U H → XK bs ra U H) (hwf : Cond.fieldLink "LateBinder$Key" 73 "LateBinder$Key" "ALL" "[LLateBinder$Key;" ∈ lw_tbl) (hwc : Cond.fieldLink "LateBinder$Key" 69 "LateBinder$Key" "code" "J" ∈ lw_tbl) (v : Int64) (σ : Sg) :
    Met l yKw (Cond.code yKw cKw 3 (some (.object "LateBinder$Key")) :: lw_gd) (rmE 0 σ σ) (PreE bs ra cA dC dI ρ X [.long v] σ) (PostE bs ra cA dC dI [zr (zkey v)] σ) (mcE σ σ) (msE σ σ) (zA bs) := by
  refine Met.ofW (cc := cKw) (maxL := 3) (ret := some (.object "LateBinder$Key")) (by decide) rfl ?_
  intro p e s m args below meth c s₁ B hml hv
  obtain ⟨rfl, hP, hK, hST, hbs, hsz⟩ := hv
  have hx := B.exec
  have hb := B.bytes
  have hr := B.returns
  have hts0 := atoms_spec (ws := Cond.code yKw cKw 3 (some (.object "LateBinder$Key")) :: lw_gd) B.pre
  have hts : ∀ w ∈ lw_gd, w.before (([Value.long v] : List Value).map (trV bs ra)).toArray s = true := fun w hw => hts0 w (List.mem_cons_of_mem _ hw)
  have hown : s.vm.findClass "LateBinder$Key" = some m.cls := findClass_of_methodNamed B.named
  have hlocks := B.notSynchronized
  obtain ⟨⟨t, hZ, hT⟩, hO⟩ := hX _ _ hST.2.2.2.2.2
  have hm0 : mcE σ σ = 0 := Nat.sub_self _
  have hm1 : msE σ σ = 0 := Nat.sub_self _
  rw [hm0, hm1]
  have hl := lv_entry ([Value.long v] : List Value) (n := 3) (Nat.le_of_ble_eq_true rfl)
  show W p l e (rmE 0 σ σ) s m _ below meth c s.heap [] 0 0 _ (entryFrame m ([Value.long v] : List Value).toArray 3)
  rw [lg_entry_eq]
  generalize (lg_sl ([Value.long v] : List Value) ++ List.replicate (3 - (lg_sl ([Value.long v] : List Value)).length) Slot.unset).toArray = ls at hl ⊢
  have hl : lv_has ls 3 [(0, .long v)] := hl
  refine lv_iconst (v := 0) hx hb dK_0 (by decide) ?_
  refine lv_istore_n (lv' := [(2, .int 0), (0, .long v)]) hx hb dK_1 rfl hl (by decide) rfl (fun ls hl => ?_)
  have hw1 := hts _ (gd_in hwf rfl)
  have hw2 := hts _ (gd_in hwc rfl)
  have loop : ∀ (n i : Nat) (x : Int32) (ls : Array Slot), i + n = 10 → x = nI i → (∀ j, j < i → v ≠ zcd j) → lv_has ls 3 [(2, .int x), (0, .long v)] → W p l e (rmE 0 σ σ) s m (([Value.long v] : List Value).map (trV bs ra)).toArray below meth c s.heap [] 0 0 (MQ below (PostE bs ra cA dC dI [zr (zkey v)] σ) (([Value.long v] : List Value).map (trV bs ra)).toArray s 0 0 (zA bs)) (F0 m 2 ls []) := by
    intro n
    induction n with
    | zero =>
      intro i x ls hi ex hno hl
      have e10 : i = 10 := by omega
      subst e10
      refine lv_iload_n hx hb dK_2 rfl (lv_at hl 0 rfl) ?_
      refine va_gets hx hb hZ va_S.rf hown hw1 (fun _ h9 => h9) dK_3 ?_
      refine va_tlen hx hb hT va_S.rf (v := nI 10) rfl dK_6 ?_
      refine lv_icmp_ge (tgt := 35) hx hb dK_7 (by decide) (fun _ => ?_) (fun z => absurd (by rw [ex]; exact Int32.le_refl _) z)
      refine lv_null hx hb dK_35 ?_
      refine W.aret hx hb hr (Or.inl ⟨_, rfl⟩) (Or.inl rfl) (fun t ht hW => ⟨?_, by rw [ht]; exact hP, va_S.rf.F ht⟩) (fun q hq => by cases hq) dK_36 hlocks
      rw [zkey_mis v (fun j hj => hno j hj)]
      rfl
    | succ n ih =>
      intro i x ls hi ex hno hl
      have hi10 : i < 10 := by omega
      have hin : vp_in x 10 := by rw [ex]; exact vp_in_nI hi10 (by decide)
      have hxi : x.toNatClampNeg = i := by rw [ex]; exact nI_clamp (by omega)
      refine lv_iload_n hx hb dK_2 rfl (lv_at hl 0 rfl) ?_
      refine va_gets hx hb hZ va_S.rf hown hw1 (fun _ h9 => h9) dK_3 ?_
      refine va_tlen hx hb hT va_S.rf (v := nI 10) rfl dK_6 ?_
      refine lv_icmp_ge (tgt := 35) hx hb dK_7 (by decide) (fun z => absurd z (by rw [ex]; exact nI_ge hi10 (by decide))) (fun _ => ?_)
      refine va_gets hx hb hZ va_S.rf hown hw1 (fun _ h9 => h9) dK_10 ?_
      refine lv_iload_n hx hb dK_13 rfl (lv_at hl 0 rfl) ?_
      refine va_tq hx hb hT va_S.rf hin dK_14 ?_
      rw [hxi]
      obtain ⟨cf, k', fi, f, cell, g1, g2, g3, g4, g5, g6⟩ := hO i hi10
      refine W.getf hx hb hown hw2 g1 g2 g3 g4 (v := .long (zcd i)) g5 rfl rfl dK_15 ?_
      show W p l e (rmE 0 σ σ) s m _ below meth c s.heap [] 0 0 _ (F0 m 18 ls [.long (zcd i)])
      refine lv_lload_n hx hb dK_18 rfl (lv_at hl 1 rfl) ?_
      refine W.lcmp hx hb dK_19 ?_
      refine lv_if_ne (tgt := 29) hx hb dK_20 (by decide) (fun z => ?_) (fun z => ?_)
      · have hne : v ≠ zcd i := fun q => z (by rw [q]; exact lgc0 _)
        refine lv_iinc (v := x + 1) (lv' := [(2, .int (x + 1)), (0, .long v)]) hx hb dK_29 hl (k := 0) rfl rfl (by decide) rfl (fun ls hl => ?_)
        refine lv_goto (tgt := 2) hx hb dK_32 (by decide) ?_
        exact ih (i + 1) (x + 1) ls (by omega) (by rw [ex]; exact nI_1 i) (fun j hj => by
          rcases Nat.lt_succ_iff_lt_or_eq.mp hj with q | q
          · exact hno j q
          · rw [q]; exact hne) hl
      · have heq : v = zcd i := by
          unfold lg_cmp at z
          split at z
          · exact absurd z (by decide)
          · split at z
            · rename_i q; exact q.symm
            · exact absurd z (by decide)
        refine va_gets hx hb hZ va_S.rf hown hw1 (fun _ h9 => h9) dK_23 ?_
        refine lv_iload_n hx hb dK_26 rfl (lv_at hl 0 rfl) ?_
        refine va_tq hx hb hT va_S.rf hin dK_27 ?_
        rw [hxi]
        refine W.aret hx hb hr (Or.inl ⟨_, rfl⟩) (Or.inr ⟨_, rfl⟩) (fun t ht hW => ⟨?_, by rw [ht]; exact hP, va_S.rf.F ht⟩) (fun q hq => by cases hq) dK_28 hlocks
        rw [heq, zkey_hit i hi10]
        show Outcome.returned (some (.ref (ra (1000 + i)))) = .returned (some (.ref (trN bs ra (1000 + i))))
        rw [trN_ge (by omega)]
  exact loop 10 0 0 ls rfl rfl (fun j hj => absurd hj (Nat.not_lt_zero j)) hl
end KEY
