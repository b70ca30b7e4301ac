-- SYNCED, on the pure state and in the reference
def ndd (P : PT) (T : TT) (x o : Nat) : Bool := (P.2.2.1 o).any (fun z => decide (T.2.1.2.1 z = some x)) || bt (T.1.2.2.2 o) x
def gva (P : PT) (T : TT) (x : Nat) : Bool := (List.range P.1.2.2).any (fun k => decide (T.2.1.2.1 k = some x))
def alb (P : PT) (T : TT) (x : Nat) : Bool := (List.range P.1.1).all (fun o => !(opn T o && ndd P T x o))
def syOk (P : PT) (T : TT) (x : Nat) : Bool := decide (T.1.1.1.1 x = 3) && (!T.1.2.1.1 x && (gva P T x && alb P T x))
def tSy1 (P : PT) (T : TT) (x : Nat) : TT := if syOk P T x then tLog (u_sy T (va_up T.1.2.1.1 x true)) (nI 5) (nI x) (-1) else T
def tSyncL (P : PT) : List Nat → TT → TT
  | [], T => T
  | x :: l, T => tSyncL P l (tSy1 P T x)
def tSync (P : PT) (T : TT) : TT := tSyncL P (List.range P.1.1) T
/-- all but log and sy is the same -/
def SF (T U : TT) : Prop := U.1.1.1.1 = T.1.1.1.1 ∧ U.1.1.1.2 = T.1.1.1.2 ∧ U.1.1.2.1 = T.1.1.2.1 ∧ U.1.1.2.2 = T.1.1.2.2 ∧ U.1.2.1.2 = T.1.2.1.2 ∧ U.1.2.2.1 = T.1.2.2.1 ∧ U.1.2.2.2 = T.1.2.2.2 ∧ U.2.1.1.1 = T.2.1.1.1 ∧ U.2.1.1.2 = T.2.1.1.2 ∧ U.2.1.2.1 = T.2.1.2.1 ∧ U.2.2.1.1 = T.2.2.1.1 ∧ U.2.2.1.2 = T.2.2.1.2 ∧ U.2.2.2.1 = T.2.2.2.1 ∧ U.2.2.2.2 = T.2.2.2.2
theorem SF.rf {T : TT} : SF T T := ⟨rfl, rfl, rfl, rfl, rfl, rfl, rfl, rfl, rfl, rfl, rfl, rfl, rfl, rfl⟩
theorem SF.tr {T U W : TT} (h : SF T U) (g : SF U W) : SF T W := by
  obtain ⟨a1, a2, a3, a4, a5, a6, a7, a8, a9, a10, a11, a12, a13, a14⟩ := h
  obtain ⟨b1, b2, b3, b4, b5, b6, b7, b8, b9, b10, b11, b12, b13, b14⟩ := g
  exact ⟨b1.trans a1, b2.trans a2, b3.trans a3, b4.trans a4, b5.trans a5, b6.trans a6, b7.trans a7, b8.trans a8, b9.trans a9, b10.trans a10, b11.trans a11, b12.trans a12, b13.trans a13, b14.trans a14⟩
theorem SF_1 (P : PT) (T : TT) (x : Nat) : SF T (tSy1 P T x) := by
  unfold tSy1
  split
  · exact ⟨rfl, rfl, rfl, rfl, rfl, rfl, rfl, rfl, rfl, rfl, rfl, rfl, rfl, rfl⟩
  · exact SF.rf
theorem SF_L (P : PT) : ∀ (l : List Nat) (T : TT), SF T (tSyncL P l T)
  | [], _ => SF.rf
  | x :: l, T => (SF_1 P T x).tr (SF_L P l _)
theorem SF_sync (P : PT) (T : TT) : SF T (tSync P T) := SF_L P _ T
theorem SF.tv {P : PT} {T U : TT} (h : SF T U) (hv : TV P T) : TV P U := by
  obtain ⟨a1, a2, a3, a4, a5, a6, a7, a8, a9, a10, a11, a12, a13, a14⟩ := h
  unfold TV
  rw [a1, a5, a6, a10, a9, a7, a8, a13]
  exact hv
theorem SF.ti {P : PT} {T U : TT} (h : SF T U) (hv : TI P T) : TI P U := TI_to hv (h.tv hv.1) h.2.2.2.2.2.2.2.2.2.2.2.2.1 h.2.1 (fun y => by rw [h.1])
section MSYNC
variable {ρ : Nat × (Nat → Int32)} {d : Nat} {c : Nat × Nat} {R : Nat → Nat → Option Nat} {I : Nat → Nat → Int32} {L : Nat → Nat → Int64} {P : PT} {sd : Nat} {T : TT}
theorem gv_i (hT : TV P T) (hV : PV P) {j x : Nat} (hx : x < 12) : eO (T.2.1.2.1 j) = nI x ↔ T.2.1.2.1 j = some x := eO_i (fun k hk => by have := hT.2.2.2.1 j k hk; have := hV.1; omega) (by omega)
theorem M_isNeeded_l (h : MX P sd T I) (hT : TV P T) {x o : Nat} (hx : x < P.1.1) (ho : o < P.1.1) : ∀ (n k : Nat), k + n = (P.2.2.1 o).length → EV ρ (d + 2) 59 2 [.ref 257, .int (nI x), .int (nI o), .int (nI k)] [] (mk c R I L) = some ([.int (bo (((P.2.2.1 o).drop k).any (fun z => decide (T.2.1.2.1 z = some x)) || bt (T.1.2.2.2 o) x))], mk c R I L) := by
  have h12 := h.1.1
  have hsd := h.2.1.1
  have h3 := (h.1.2.2.2.2.1 o ho).1
  intro n
  induction n with
  | zero =>
    intro k hk
    rw [List.drop_eq_nil_of_le (by omega), bM_isNeeded_2, M_dev_e h.2.1, zci, bM_isNeeded_12, zidx_n (by omega) (by decide), (h.2.1.2.2.2.2.2.1 o ho).2.1, if_pos (nI_le (by omega) (by omega)), nI_add, zidx_n (by omega) (by decide), (h.2.2.2.1 o (by omega)).2.2.2.1, M_has_e _ (by omega), zci, bM_isNeeded_64, zbb]
    rfl
  | succ n ih =>
    intro k hk
    have hk2 : k < (P.2.2.1 o).length := by omega
    have hz8 := ne_lt h.1 ho _ (List.getElem_mem hk2)
    rw [List.drop_eq_getElem_cons hk2, bM_isNeeded_2, M_dev_e h.2.1, zci, bM_isNeeded_12, zidx_n (by omega) (by decide), (h.2.1.2.2.2.2.2.1 o ho).2.1, if_neg (nI_ge hk2 (by omega)), M_dev_e h.2.1, zci, bM_isNeeded_33, pk_mul, nI_add, zidx_n (by omega) (by decide), PM_ne h.2.1 ho (List.getElem?_eq_getElem hk2), nI_add, zidx_n (by omega) (by decide), h.2.2.2.2.1.2.1 _ hz8, nI_add]
    by_cases e : T.2.1.2.1 (P.2.2.1 o)[k] = some x
    · rw [if_pos ((gv_i hT h.1 (by omega)).mpr e)]
      rw [List.any_cons, decide_eq_true e, Bool.true_or, Bool.true_or]; rfl
    · rw [if_neg (fun z => e ((gv_i hT h.1 (by omega)).mp z)), ih (k + 1) (by omega), List.any_cons, decide_eq_false e, Bool.false_or]
theorem M_isNeeded_e (h : MX P sd T I) (hT : TV P T) {x o : Nat} (hx : x < P.1.1) (ho : o < P.1.1) : EV ρ (d + 2) 59 0 [.ref 257, .int (nI x), .int (nI o), zU] [] (mk c R I L) = some ([.int (bo (ndd P T x o))], mk c R I L) := by
  rw [bM_isNeeded_0, M_isNeeded_l h hT hx ho (P.2.2.1 o).length 0 (by omega)]
  rfl
theorem rg_cons {k n : Nat} (h : k < n) : (List.range n).drop k = k :: (List.range n).drop (k + 1) := by
  rw [List.drop_eq_getElem_cons (by simpa using h), List.getElem_range]
theorem rg_nil {k n : Nat} (h : n ≤ k) : (List.range n).drop k = [] := List.drop_eq_nil_of_le (by simpa using h)
theorem M_givesAny_l (h : MX P sd T I) (hT : TV P T) {x : Nat} (hx : x < P.1.1) : ∀ (n k : Nat), k + n = P.1.2.2 → EV ρ (d + 2) 60 2 [.ref 257, .int (nI x), .int (nI k)] [] (mk c R I L) = some ([.int (bo (((List.range P.1.2.2).drop k).any (fun k => decide (T.2.1.2.1 k = some x))))], mk c R I L) := by
  have h12 := h.1.1
  have h8 := h.1.2.2.1
  intro n
  induction n with
  | zero =>
    intro k hk
    rw [rg_nil (by omega), bM_givesAny_2, M_supplies_e h.2.1, zci, bM_givesAny_7, if_pos (nI_le (by omega) (by omega))]
    rfl
  | succ n ih =>
    intro k hk
    rw [rg_cons (by omega), bM_givesAny_2, M_supplies_e h.2.1, zci, bM_givesAny_7, if_neg (nI_ge (by omega) (by omega)), nI_add, zidx_n (by omega) (by decide), h.2.2.2.2.1.2.1 k (by omega), nI_add]
    by_cases e : T.2.1.2.1 k = some x
    · rw [if_pos ((gv_i hT h.1 (by omega)).mpr e)]
      simp [e, bo]
    · rw [if_neg (fun z => e ((gv_i hT h.1 (by omega)).mp z)), ih (k + 1) (by omega)]
      simp [e]
theorem M_isAllBound_l (h : MX P sd T I) (hT : TV P T) {x : Nat} (hx : x < P.1.1) : ∀ (n k : Nat), k + n = P.1.1 → EV ρ (d + 3) 61 2 [.ref 257, .int (nI x), .int (nI k)] [] (mk c R I L) = some ([.int (bo (((List.range P.1.1).drop k).all (fun o => !(opn T o && ndd P T x o))))], mk c R I L) := by
  have h12 := h.1.1
  intro n
  induction n with
  | zero =>
    intro k hk
    rw [rg_nil (by omega), bM_isAllBound_2, M_devices_e h.2.1, zci, bM_isAllBound_7, if_pos (nI_le (by omega) (by omega))]
    rfl
  | succ n ih =>
    intro k hk
    have hs := hT.1 k
    rw [rg_cons (by omega), bM_isAllBound_2, M_devices_e h.2.1, zci, bM_isAllBound_7, if_neg (nI_ge (by omega) (by omega)), nI_add, Nat.zero_add, zidx_n (by omega) (by decide), zidx_n (by omega) (by decide), (h.2.2.1 k (by omega)).1, nI_add]
    by_cases e0 : T.1.1.1.1 k = 0
    · rw [if_pos ((nn1 (by omega)).mpr e0), ih (k + 1) (by omega)]
      have : opn T k = false := by unfold opn; simp [e0]
      simp [this]
    · rw [if_neg (fun z => e0 ((nn1 (by omega)).mp z))]
      by_cases e3 : T.1.1.1.1 k = 3
      · rw [if_pos (by rw [e3]), ih (k + 1) (by omega)]
        have : opn T k = false := by unfold opn; simp [e3]
        simp [this]
      · rw [if_neg (by rw [nI_eq (by omega) (by decide)]; exact e3), M_isNeeded_e h hT hx (by omega), zci, bM_isAllBound_39, nI_add]
        have : opn T k = true := by unfold opn; simp; omega
        cases e : ndd P T x k with
        | true =>
          rw [if_neg (by decide)]
          simp [this, e, bo]
        | false =>
          rw [if_pos (by decide), ih (k + 1) (by omega)]
          simp [e]
theorem M_syncs_l : ∀ (n k : Nat) (T : TT) (I : Nat → Nat → Int32), k + n = P.1.1 → MX P sd T I → TV P T → ∃ J, EV ρ (d + 4) 62 2 [.ref 257, .int (nI k)] [] (mk c R I L) = some ([], mk c R J L) ∧ MX P sd (tSyncL P ((List.range P.1.1).drop k) T) J ∧ FM I J ∧ J 257 = I 257 := by
  intro n
  induction n with
  | zero =>
    intro k T I hk h hT
    have h12 := h.1.1
    rw [rg_nil (by omega), bM_syncs_2, M_devices_e h.2.1, zci, bM_syncs_7, if_pos (nI_le (by omega) (by omega))]
    exact ⟨I, rfl, h, FM.rf, rfl⟩
  | succ n ih =>
    intro k T I hk h hT
    have h12 := h.1.1
    have hs := hT.1 k
    have hb := hT.bnd h.1
    rw [rg_cons (by omega), bM_syncs_2, M_devices_e h.2.1, zci, bM_syncs_7, if_neg (nI_ge (by omega) (by omega)), nI_add, Nat.zero_add, zidx_n (by omega) (by decide), (h.2.2.1 k (by omega)).1]
    unfold tSyncL
    have skip : syOk P T k = false → ∃ J, EV ρ (d + 4) 62 71 [.ref 257, .int (nI k)] [] (mk c R I L) = some ([], mk c R J L) ∧ MX P sd (tSyncL P ((List.range P.1.1).drop (k + 1)) (tSy1 P T k)) J ∧ FM I J ∧ J 257 = I 257 := fun e => by
      rw [bM_syncs_71, nI_add]
      have e2 : tSy1 P T k = T := by unfold tSy1; rw [if_neg (by rw [e]; decide)]
      rw [e2]
      exact ih (k + 1) T I (by omega) h hT
    by_cases e3 : T.1.1.1.1 k = 3
    · rw [if_pos (by rw [e3]), nI_add, zidx_n (by omega) (by decide), (h.2.2.2.1 k (by omega)).2.2.1]
      cases e4 : T.1.2.1.1 k with
      | true =>
        rw [if_pos (by decide)]
        exact skip (by unfold syOk; simp [e4])
      | false =>
        rw [if_neg (by decide), bM_givesAny_0, M_givesAny_l h hT (by omega) P.1.2.2 0 (by omega), zci, bM_syncs_40, List.drop_zero]
        cases e5 : gva P T k with
        | false =>
          have e5' : (List.range P.1.2.2).any (fun j => decide (T.2.1.2.1 j = some k)) = false := e5
          rw [e5', if_pos (by decide)]
          exact skip (by unfold syOk; simp [e5])
        | true =>
          have e5' : (List.range P.1.2.2).any (fun j => decide (T.2.1.2.1 j = some k)) = true := e5
          rw [e5', if_neg (by decide), bM_isAllBound_0, M_isAllBound_l h hT (by omega) P.1.1 0 (by omega), zci, bM_syncs_48, List.drop_zero]
          cases e6 : alb P T k with
          | false =>
            have e6' : (List.range P.1.1).all (fun o => !(opn T o && ndd P T k o)) = false := e6
            rw [e6', if_pos (by decide)]
            exact skip (by unfold syOk; simp [e6])
          | true =>
            have e6' : (List.range P.1.1).all (fun o => !(opn T o && ndd P T k o)) = true := e6
            rw [e6', if_neg (by decide), nI_add, zidx_n (by omega) (by decide), bM_syncs_64]
            have e0 : z2 I 274 (48 + k) (nI 1) = va_up I 274 (va_up (I 274) (48 + k) (bo true)) := rfl
            rw [e0]
            obtain ⟨s, g1, g2⟩ := M_logs_e (ρ := ρ) (d := d + 2) (c := c) (R := R) (I := va_up I 274 (va_up (I 274) (48 + k) (bo true))) (L := L) (T := u_sy T (va_up T.1.2.1.1 k true)) (by rw [va_s]; exact MR_sy (by omega) true h.2.2 hb) hb (nI 5) (nI k) (-1)
            rw [g1, zcv, bx_uu, bM_syncs_71, nI_add]
            have e2 : tSy1 P T k = tLog (u_sy T (va_up T.1.2.1.1 k true)) (nI 5) (nI k) (-1) := by
              unfold tSy1
              rw [if_pos (by unfold syOk; simp [e3, e4, e5, e6])]
            have hM2 : MX P sd (tSy1 P T k) (va_up I 274 s) := by rw [e2]; exact MX_up h g2
            obtain ⟨J, k1, k2, k3, k4⟩ := ih (k + 1) (tSy1 P T k) (va_up I 274 s) (by omega) hM2 ((SF_1 P T k).tv hT)
            exact ⟨J, k1, k2, (FM.rf.up s).tr k3, by rw [k4, va_n (by decide)]⟩
    · rw [if_neg (by rw [nI_eq (by omega) (by decide)]; exact e3)]
      exact skip (by unfold syOk; simp [e3])
theorem M_syncs_e (h : MX P sd T I) (hT : TV P T) : ∃ J, EV ρ (d + 4) 62 0 [.ref 257, zU] [] (mk c R I L) = some ([], mk c R J L) ∧ MX P sd (tSync P T) J ∧ FM I J ∧ J 257 = I 257 := by
  rw [bM_syncs_0]
  exact M_syncs_l P.1.1 0 T I (by omega) h hT
end MSYNC
