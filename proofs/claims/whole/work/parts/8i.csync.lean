-- THE COMPONENT'S BENCH: synced
section CSYNC
variable {ρ : Nat × (Nat → Int32)} {d : Nat} {c : Nat × Nat} {R : Nat → Nat → Option Nat} {I J : Nat → Nat → Int32} {L : Nat → Nat → Int64} {P : PT} {b p : Nat} {T : TT}
theorem oka_20 {q m : Nat} (h : oka q 20 m = true) : (Nat.blt q NC && Nat.ble 20 (zC q)) = true ∧ zN q = m := by
  unfold oka okc at h
  show (Nat.blt q 281 && Nat.ble 20 (zC q)) = true ∧ zN q = m
  simp only [Bool.and_eq_true, beq_iff_eq, Nat.beq_eq_true_eq, decide_eq_true_eq, Nat.blt_eq, Nat.ble_eq, Nat.beq_eq] at h ⊢
  omega
theorem B_placesOf_e {q m n : Nat} (hq : oka q 20 m = true) (hn : n ≤ m) (hm : m ≤ 32) (w : Int32) : EV ρ (d + 1) 224 0 [.ref q, .int (nI n), .int w, zU, zU] [] (mk c R I L) = some ([.int (bR n (fun j => decide (I q j = w)))], mk c R I L) := by
  obtain ⟨h1, h2⟩ := oka_20 hq
  have loop : ∀ (r k : Nat), k + r = n → EV ρ (d + 1) 224 5 [.ref q, .int (nI n), .int w, .int (bR k (fun j => decide (I q j = w))), .int (nI k)] [] (mk c R I L) = some ([.int (bR n (fun j => decide (I q j = w)))], mk c R I L) := by
    intro r
    induction r with
    | zero =>
      intro k hk
      rw [bB_placesOf_5, if_pos (nI_le (by omega) (by omega)), show k = n from by omega]
    | succ r ih =>
      intro k hk
      have hi := ih (k + 1) (by omega)
      rw [bR_s] at hi
      rw [bB_placesOf_5, if_neg (nI_ge (by omega) (by omega)), h1, cond_true, h2, if_neg (nI_ge (by omega) (by omega)), zar hq, zidx_n (by omega) (by omega), nI_add]
      by_cases e : I q k = w
      · rw [if_pos e]
        rw [decide_eq_true e, if_pos rfl] at hi
        exact hi
      · rw [if_neg e]
        rw [decide_eq_false e, if_neg (by decide)] at hi
        exact hi
  rw [bB_placesOf_0]
  exact loop n 0 (by omega)
theorem B_wait_e {s : Nat} (hs : s ≤ 3) : EV ρ (d + 1) 223 0 [.int (nI s)] [] (mk c R I L) = some ([.int (bo (decide (s = 1 ∨ s = 2)))], mk c R I L) := by
  rw [bB_isWaitingState_0]
  by_cases e1 : s = 1
  · rw [if_pos (by rw [e1]), decide_eq_true (Or.inl e1)]; rfl
  · rw [if_neg (by rw [nI_eq (by omega) (by decide)]; exact e1)]
    by_cases e2 : s = 2
    · rw [if_pos (by rw [e2]), decide_eq_true (Or.inr e2)]; rfl
    · rw [if_neg (by rw [nI_eq (by omega) (by decide)]; exact e2), decide_eq_false (by omega)]; rfl
theorem Ben_givenBy_e (h : CX P b p T R I) (hv : TV P T) {x : Nat} (hx : x < 12) : EV ρ (d + 2) 183 0 [.ref b, .int (nI x)] [] (mk c R I L) = some ([.int (bR 8 (fun j => decide (T.2.1.2.1 j = some x)))], mk c R I L) := by
  obtain ⟨hb, hV, hR, hC, hT⟩ := h
  rw [bBen_givenBy_0, zob (xb_o hb), xb_F10 hb, zrs, B_placesOf_e (xb_a9 hb) (by decide) (by decide), zci, bBen_givenBy_10]
  have e : bR 8 (fun j => decide (I (b + 9) j = nI x)) = bR 8 (fun j => decide (T.2.1.2.1 j = some x)) := b_ext (fun i hi => by
    rw [bt_R (by decide), bt_R (by decide)]
    by_cases h8 : i < 8
    · rw [hT.2.2.1.2.1 i h8]
      have := gv_i (P := P) (j := i) hv hV hx
      simp only [this]
    · rw [decide_eq_false h8]; rfl)
  rw [e]
/-- what it is given lies among the supplies -/
theorem gv_ns (hV : PV P) (hI : IV P T) {j y : Nat} (h : T.2.1.2.1 j = some y) : j < P.1.2.2 := by
  have h1 := (hI.2.2.2.1.1 j y).mp h
  have h3 : T.1.1.1.1 y = 3 := Classical.byContradiction fun z => by
    rw [hI.1.2.1 y z] at h1
    cases h1
  obtain ⟨h4, h5⟩ := hI.1.2.2 y h3
  rw [h5] at h1
  exact ((hV.2.2.2.2.2.1 _ h4).2 _ (List.mem_filter.mp h1).1).2.2.2.1 rfl
theorem gva_b (hV : PV P) (hI : IV P T) (x : Nat) : (bR 8 (fun j => decide (T.2.1.2.1 j = some x)) = 0) ↔ gva P T x = false := by
  have h8 := hV.2.2.1
  constructor
  · intro h
    unfold gva
    rw [List.any_eq_false]
    intro k hk
    have hk2 := List.mem_range.mp hk
    have := congrArg (fun z => bt z k) h
    rw [bt_R (by decide), b_0, decide_eq_true (show k < 8 by omega), Bool.true_and] at this
    rw [this]
    decide
  · intro h
    refine b_ext (fun i hi => ?_)
    rw [bt_R (by decide), b_0]
    unfold gva at h
    rw [List.any_eq_false] at h
    cases e : decide (T.2.1.2.1 i = some x) with
    | false => rw [Bool.and_false]
    | true =>
      have := gv_ns hV hI (of_decide_eq_true e)
      exact absurd e (h i (List.mem_range.mpr this))
theorem ndd_b (hV : PV P) {x o : Nat} (ho : o < P.1.1) : ndd P T x o = (!decide (bitsL (P.2.2.1 o) &&& bR 8 (fun j => decide (T.2.1.2.1 j = some x)) = 0) || bt (T.1.2.2.2 o) x) := by
  unfold ndd
  congr 1
  have hz := ne_lt hV ho
  have hz32 : ∀ k ∈ P.2.2.1 o, k < 32 := fun k hk => by have := hz k hk; omega
  rw [Bool.eq_iff_iff, List.any_eq_true, Bool.not_eq_true', decide_eq_false_iff_not]
  constructor
  · rintro ⟨z, h1, h2⟩ h3
    have := congrArg (fun w => bt w z) h3
    rw [b_and, bt_bits hz32, bt_R (by decide), b_0, decide_eq_true h1, decide_eq_true (hz z h1), h2] at this
    cases this
  · intro h
    refine Classical.byContradiction fun hn => h (b_ext (fun i hi => ?_))
    rw [b_and, bt_bits hz32, bt_R (by decide), b_0]
    by_cases e1 : i ∈ P.2.2.1 o
    · cases e2 : decide (T.2.1.2.1 i = some x) with
      | false => simp
      | true => exact absurd ⟨i, e1, e2⟩ hn
    · simp [e1]
theorem Ben_allHaveCome_e (h : CX P b p T R I) (hI : IV P T) {x : Nat} (hx : x < P.1.1) : EV ρ (d + 3) 172 0 [.ref b, .int (nI x), zU, zU, zU] [] (mk c R I L) = some ([.int (bo (alb P T x))], mk c R I L) := by
  have h' := h
  obtain ⟨hb, hV, hR, hC, hT⟩ := h
  have hv := hI.1.1
  have h12 := hV.1
  have hp := hC.1
  have loop : ∀ (n k : Nat), k + n = P.1.1 → EV ρ (d + 3) 172 8 [.ref b, .int (nI x), .int (bR 8 (fun j => decide (T.2.1.2.1 j = some x))), .int (nI k), zU] [] (mk c R I L) = some ([.int (bo (((List.range P.1.1).drop k).all (fun o => !(opn T o && ndd P T x o))))], mk c R I L) := by
    intro n
    induction n with
    | zero =>
      intro k hk
      rw [rg_nil (by omega), bBen_allHaveCome_8, zob (xb_o hb), hR, zrs, zob (xp_o hp), hC.2.1, if_pos (nI_le (by omega) (by omega))]
      rfl
    | succ n ih =>
      intro k hk
      have hk12 : k < P.1.1 := by omega
      have hst := hv.1 k
      have hi := ih (k + 1) (by omega)
      have tail : ndd P T x k = true → zcI (EV ρ (d + 2) 223 0 [.int (nI (T.1.1.1.1 k))] [] (mk c R I L)) (fun x14 s13 => EV ρ (d + 3) 172 68 [.ref b, .int (nI x), .int (bR 8 (fun j => decide (T.2.1.2.1 j = some x))), .int (nI k), zU] [.int x14] s13) = some ([.int (bo ((k :: (List.range P.1.1).drop (k + 1)).all (fun o => !(opn T o && ndd P T x o))))], mk c R I L) := fun hn => by
        rw [B_wait_e hst, zci, bBen_allHaveCome_68, List.all_cons, hn, Bool.and_true]
        show (if bo (opn T k) = 0 then _ else _) = _
        cases e : opn T k with
        | true => rw [if_neg (by decide)]; rfl
        | false => rw [if_pos (by decide), nI_add, hi]; rfl
      rw [rg_cons hk12, bBen_allHaveCome_8, zob (xb_o hb), hR, zrs, zob (xp_o hp), hC.2.1, if_neg (nI_ge hk12 (by omega)), zob (xb_o hb), zrs, zob (xp_o hp), xp_F10 hp, zrs, zar (xp_a8 hp), zidx_n (by omega) (by decide), (hC.2.2.2.2.1 k hk12).2.2.2.2.1]
      have hnd := ndd_b (x := x) (T := T) hV hk12
      by_cases e : bitsL (P.2.2.1 k) &&& bR 8 (fun j => decide (T.2.1.2.1 j = some x)) = 0
      · rw [if_pos e, zob (xb_o hb), xb_F8 hb, zrs, zar (xb_a7 hb), zidx_n (by omega) (by decide), (hT.2.1 k (by omega)).2.2.1]
        rw [decide_eq_true e, Bool.not_true, Bool.false_or] at hnd
        cases e2 : bt (T.1.2.2.2 k) x with
        | true =>
          rw [if_pos ((hs_b (by omega) _).mpr e2), zob (xb_o hb), xb_F2 hb, zrs, zar (xb_a1 hb), zidx_n (by omega) (by decide), (hT.1 k (by omega)).1]
          exact tail (hnd.trans e2)
        | false =>
          rw [if_neg (fun z => by rw [(hs_b (by omega) _).mp z] at e2; cases e2), nI_add, hi, List.all_cons, hnd, e2, Bool.and_false]
          rfl
      · rw [if_neg e, zob (xb_o hb), xb_F2 hb, zrs, zar (xb_a1 hb), zidx_n (by omega) (by decide), (hT.1 k (by omega)).1]
        exact tail (by rw [hnd, decide_eq_false e]; rfl)
  rw [bBen_allHaveCome_0, zob (xb_o hb), Ben_givenBy_e h' hv (by omega), zci, bBen_allHaveCome_5]
  exact loop P.1.1 0 (by omega)
end CSYNC
