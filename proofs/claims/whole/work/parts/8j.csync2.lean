-- THE COMPONENT'S BENCH: synced, all of them
section CSYNC2
variable {ρ : Nat × (Nat → Int32)} {d : Nat} {c : Nat × Nat} {R : Nat → Nat → Option Nat} {I J : Nat → Nat → Int32} {L : Nat → Nat → Int64} {P : PT} {b p : Nat} {T : TT}
theorem CR_sy (hb : isB b) (h : CR b T I) {w : Int32} {f : Nat → Bool} (hf : b = 86 → ∀ j, j < 32 → bt w j = (decide (j < 12) && f j)) : CR b (u_sy T f) (z2 I b 17 w) := by
  have hge := xb_ge hb
  have h18 := xb_18 hb
  obtain ⟨g1, g2, ⟨g3, g4, g5, g6⟩, g7, g8, g9, g10⟩ := h
  refine ⟨fun y hy => ?_, fun y hy => ?_, ⟨fun j hj => ?_, fun j hj => ?_, ?_, ?_⟩, RowIs_to g7 (z2_ne (by omega)) (z2_ne (by omega)), RowIs_to g8 (z2_ne (by omega)) (z2_ne (by omega)), fun e => ⟨JouIs_to (g9 e).1 (z2_ne (by omega)) (z2_ne (by omega)), fun j hj => ?_⟩, ?_⟩
  · rw [z2_ne (by omega), z2_ne (by omega)]; exact g1 y hy
  · rw [z2_ne (by omega), z2_ne (by omega), z2_ne (by omega), z2_ne (by omega)]; exact g2 y hy
  · rw [z2_ne (by omega)]; exact g3 j hj
  · rw [z2_ne (by omega)]; exact g4 j hj
  · rw [z2a, if_neg (by omega)]; exact g5
  · rw [z2a, if_neg (by omega)]; exact g6
  · rw [show z2 I b 17 w 86 17 = w from by rw [← e]; exact z2_at _ _ _ _]
    exact hf e j hj
  · have := xb_104 hb 0 (by omega)
    rw [z2_ne (by omega)]; exact g10
theorem IV_sy1 {x : Nat} (h : IV P T) : IV P (tSy1 P T x) := by
  have hS := SF_1 P T x
  have ht := hS.ti h.1
  obtain ⟨s1, s2, s3, s4, s5, s6, s7, s8, s9, s10, s11, s12, s13, s14⟩ := hS
  exact IV_st h ht s6 s8 (fun y => by rw [s1]) s10 s9 s13
theorem CI_to {U : TT} (h : CI P b p T R I) (hU : CR b U J) (hF : FB b I J) (hI : IV P U) (hs : ∀ y, U.1.1.1.1 y = 3 → T.1.1.1.1 y = 3) (hc : ∀ y, T.1.1.1.1 y = 3 → U.2.1.1.1 y = T.2.1.1.1 y) (hJ : J (b + 5) = I (b + 5)) : CI P b p U R J := ⟨CX_to h.1 hU hF, hI, CH_to h.2.2 h.1.2.1 h.2.1 hs hc hJ⟩
theorem Ben_sync_1 (h : CI P 86 p T R I) {k : Nat} (hk : k < P.1.1) : ∃ K, EV ρ (d + 4) 171 2 [.ref 86, .int (nI k), zU] [] (mk c R I L) = EV ρ (d + 4) 171 2 [.ref 86, .int (nI (k + 1)), zU] [] (mk c R K L) ∧ CI P 86 p (tSy1 P T k) R K ∧ FZ [12, 13, 16, 17] 86 I K ∧ K 86 18 = I 86 18 := by
  obtain ⟨⟨hb, hV, hR, hC, hT⟩, hI, hH⟩ := h
  have h' : CI P 86 p T R I := ⟨⟨hb, hV, hR, hC, hT⟩, hI, hH⟩
  have h12 := hV.1
  have hp := hC.1
  have hst := hI.1.1.1 k
  have hsy := (hT.2.2.2.2.2.1 rfl).2
  have no : syOk P T k = false → ∃ K, EV ρ (d + 4) 171 82 [.ref 86, .int (nI k), zU] [] (mk c R I L) = EV ρ (d + 4) 171 2 [.ref 86, .int (nI (k + 1)), zU] [] (mk c R K L) ∧ CI P 86 p (tSy1 P T k) R K ∧ FZ [12, 13, 16, 17] 86 I K ∧ K 86 18 = I 86 18 := fun hn => by
    rw [bBen_sync_82, nI_add]
    unfold tSy1
    rw [hn, if_neg (by decide)]
    exact ⟨I, rfl, h', FZ.rf, rfl⟩
  rw [bBen_sync_2, zob (xb_o hb), hR, zrs, zob (xp_o hp), hC.2.1, if_neg (nI_ge hk (by omega)), zob (xb_o hb), xb_F2 hb, zrs, zar (xb_a1 hb), zidx_n (by omega) (by decide), (hT.1 k (by omega)).1]
  by_cases e3 : T.1.1.1.1 k = 3
  · rw [if_pos (by rw [e3]), zob (xb_o hb)]
    cases es : T.1.2.1.1 k with
    | true =>
      rw [if_neg (fun z => by
        have := (hs_0 (by omega) _).mp z
        rw [hsy k (by omega), es, decide_eq_true (show k < 12 by omega)] at this
        cases this)]
      exact no (by unfold syOk; rw [es]; simp)
    | false =>
      rw [if_pos ((hs_0 (by omega) _).mpr (by rw [hsy k (by omega), es, Bool.and_false])), zob (xb_o hb), Ben_givenBy_e h'.1 hI.1.1 (by omega), zci, bBen_sync_49]
      cases eg : gva P T k with
      | false =>
        rw [if_pos ((gva_b hV hI k).mpr eg)]
        exact no (by unfold syOk; rw [eg]; simp)
      | true =>
        rw [if_neg (fun z => by rw [(gva_b hV hI k).mp z] at eg; cases eg), zob (xb_o hb), Ben_allHaveCome_e h'.1 hI hk, zci, bBen_sync_57]
        cases ea : alb P T k with
        | false =>
          rw [if_pos (by decide)]
          exact no (by unfold syOk; rw [ea]; simp)
        | true =>
          have hok : syOk P T k = true := by unfold syOk; rw [ea, eg, es, e3]; rfl
          have hI2 := IV_sy1 (x := k) hI
          rw [if_neg (by decide), zob (xb_o hb), zob (xb_o hb), bBen_sync_72, zob (xb_o hb), xb_F1 hb, zrs, zob (xb_oj hb)]
          unfold tSy1 at hI2 ⊢
          rw [hok, if_pos rfl] at hI2 ⊢
          have hA : CR 86 (u_sy T (va_up T.1.2.1.1 k true)) (z2 I 86 17 (I 86 17 ||| (nI 1 <<< (nI k &&& 31)))) := CR_sy hb hT (fun _ j hj => by
            rw [b_or, hsy j hj, b_bit (by omega)]
            unfold va_up
            by_cases ej : j = k
            · rw [if_pos ej, decide_eq_true ej, decide_eq_true (show j < 12 by omega)]; simp
            · rw [if_neg ej, decide_eq_false ej]; simp)
          have hZ : FZ [5, 12, 13, 16, 17] 86 I (z2 I 86 17 (I 86 17 ||| (nI 1 <<< (nI k &&& 31)))) := FZ.rf.z0 (by decide)
          obtain ⟨K, g1, g2, g3, g4⟩ := Ben_logZ (ρ := ρ) (d := d + 1) (c := c) (L := L) (CX_to h'.1 hA hZ.1) (nI 5) (nI k) (-1)
          rw [g1, zcv, bBen_sync_82, nI_add]
          have hF := hZ.tr g3
          refine ⟨K, rfl, ⟨g2, hI2, CH_to hH hV hI (fun _ z => z) (fun _ _ => rfl) (hF.2 5 (by decide))⟩, hF.mo (by decide), ?_⟩
          rw [g4, z2a, if_neg (by omega)]
  · rw [if_neg (by rw [nI_eq (by omega) (by decide)]; exact e3)]
    exact no (by unfold syOk; rw [decide_eq_false e3]; rfl)
theorem Ben_sync_l : ∀ (n k : Nat) (T : TT) (I : Nat → Nat → Int32), k + n = P.1.1 → CI P 86 p T R I → ∃ J, EV ρ (d + 4) 171 2 [.ref 86, .int (nI k), zU] [] (mk c R I L) = some ([], mk c R J L) ∧ CI P 86 p (tSyncL P ((List.range P.1.1).drop k) T) R J ∧ FZ [12, 13, 16, 17] 86 I J ∧ J 86 18 = I 86 18 := by
  intro n
  induction n with
  | zero =>
    intro k T I hk h
    have h12 := h.1.2.1.1
    have hb := h.1.1
    have hC := h.1.2.2.2.1
    rw [rg_nil (by omega), bBen_sync_2, zob (xb_o hb), h.1.2.2.1, zrs, zob (xp_o hC.1), hC.2.1, if_pos (nI_le (by omega) (by omega))]
    exact ⟨I, rfl, h, FZ.rf, rfl⟩
  | succ n ih =>
    intro k T I hk h
    obtain ⟨K, g1, g2, g3, g4⟩ := Ben_sync_1 (ρ := ρ) (d := d) (c := c) (L := L) h (show k < P.1.1 by omega)
    obtain ⟨J, j1, j2, j3, j4⟩ := ih (k + 1) _ K (by omega) g2
    rw [rg_cons (by omega), g1, j1]
    exact ⟨J, rfl, j2, g3.tr j3, j4.trans g4⟩
theorem Ben_sync_e (h : CI P 86 p T R I) : ∃ J, EV ρ (d + 4) 171 0 [.ref 86, zU, zU] [] (mk c R I L) = some ([], mk c R J L) ∧ CI P 86 p (tSync P T) R J ∧ FZ [12, 13, 16, 17] 86 I J ∧ J 86 18 = I 86 18 := by
  rw [bBen_sync_0]
  exact Ben_sync_l P.1.1 0 T I (by omega) h
end CSYNC2
