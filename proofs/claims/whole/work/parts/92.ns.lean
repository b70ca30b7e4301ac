-- SYNCED ones are devices
def NS (P : PT) (T : TT) : Prop := ∀ j, T.1.2.1.1 j = true → j < P.1.1
def SE (T U : TT) : Prop := ∀ j, U.1.2.1.1 j = true → T.1.2.1.1 j = true
theorem SE.rf {T : TT} : SE T T := fun _ h => h
theorem SE.tr {T U W : TT} (h : SE T U) (g : SE U W) : SE T W := fun j hj => h j (g j hj)
theorem SE.ns {P : PT} {T U : TT} (h : SE T U) (g : NS P T) : NS P U := fun j hj => g j (h j hj)
theorem SE.of {T U : TT} (h : U.1.2.1.1 = T.1.2.1.1) : SE T U := fun j hj => by rw [h] at hj; exact hj
theorem tProbe_sy {P : PT} {T : TT} {x v : Nat} (hV : PV P) (h : IV P T) (hx : x < P.1.1) (hvn : v < P.1.2.1) (h3 : T.1.1.1.1 x ≠ 3) : (tProbe P T x v).2.1.2.1.1 = T.1.2.1.1 := by
  obtain ⟨⟨f1, f2, f3, f4, f5, f6, f7, f8, f9, f10, f11⟩, hW, hw⟩ := tWrong_f hV h.1.1 hx hvn (h.1.2.1 x h3)
  unfold tProbe
  split
  · exact f5
  · show (tRelease (tRea P T x v) x).1.2.1.1 = _
    rw [(tRelease_f (tRea P T x v) x).2.2.2.2.2.2.2.2.2.2.2]
    exact f5
theorem tEnd1_sy {P : PT} {T : TT} {x v : Nat} (hV : PV P) (h : IV P T) (hx : x < P.1.1) (hvn : v < P.1.2.1) (h3 : T.1.1.1.1 x ≠ 3) : (tEnd1 P T x v).2.1.2.1.1 = T.1.2.1.1 := by
  unfold tEnd1
  split
  · exact tProbe_sy hV h hx hvn h3
  · exact tProbe_sy hV h hx hvn h3
theorem tTryL_sy {P : PT} {x : Nat} (hV : PV P) (hx : x < P.1.1) : ∀ (l : List Nat) (T : TT), (∀ v ∈ l, v < P.1.2.1) → IV P T → T.1.1.1.1 x ≠ 3 → (tTryL P x l T).1.2.1.1 = T.1.2.1.1
  | [], _, _, _, _ => rfl
  | v :: l, T, hl, h, h3 => by
    have hvn := hl v List.mem_cons_self
    have e := tEnd1_sy hV h hx hvn h3
    unfold tTryL
    cases e2 : (tEnd1 P T x v).1 with
    | true => exact e
    | false =>
      rw [if_neg (by decide), tTryL_sy hV hx l _ (fun w hw => hl w (List.mem_cons_of_mem _ hw)) (tEnd1_v hV h hx hvn h3) ((tEnd1_f hV h.1 hx hvn h3).2.2 e2)]
      exact e
theorem tTry_sy {P : PT} {T : TT} {x : Nat} (hV : PV P) (h : IV P T) (hx : x < P.1.1) (h3 : T.1.1.1.1 x ≠ 3) : (tTry P T x).1.2.1.1 = T.1.2.1.1 := tTryL_sy hV hx _ T (fun _ hv => lnL_lt hV hx hv) h h3
theorem tPass_sy {P : PT} (hV : PV P) : ∀ (l : List Nat) (T : TT), (∀ y ∈ l, y < P.1.1) → IV P T → (tPass P l T).1.2.1.1 = T.1.2.1.1
  | [], _, _, _ => rfl
  | x :: l, T, hl, h => by
    unfold tPass
    split
    · rename_i e
      have hx := hl x List.mem_cons_self
      rw [tPass_sy hV l _ (fun y hy => hl y (List.mem_cons_of_mem _ hy)) (tTry_v hV h hx (by omega)), tTry_sy hV h hx (by omega)]
    · exact tPass_sy hV l T (fun y hy => hl y (List.mem_cons_of_mem _ hy)) h
theorem tSettle_sy {P : PT} (hV : PV P) : ∀ (n had : Nat) (T : TT), IV P T → (tSettle P n had T).1.2.1.1 = T.1.2.1.1
  | 0, _, _, _ => rfl
  | n + 1, had, T, h => by
    unfold tSettle
    split
    · rw [tSettle_sy hV n _ _ (tPass_v hV T.1.2.1.2 T h.1.1.2.1.2 h), tPass_sy hV T.1.2.1.2 T h.1.1.2.1.2 h]
    · rfl
theorem tTries_sy {P : PT} {p : Nat → Bool} (hV : PV P) : ∀ (l : List Nat) (T : TT), (∀ y ∈ l, y < P.1.1) → IV P T → (tTries P p l T).1.2.1.1 = T.1.2.1.1
  | [], _, _, _ => rfl
  | x :: l, T, hl, h => by
    unfold tTries
    split
    · rename_i e
      have h3 := opn_3 (Bool.and_eq_true_iff.mp e).1
      have hx := hl x List.mem_cons_self
      rw [tTries_sy hV l _ (fun z hz => hl z (List.mem_cons_of_mem _ hz)) (tTry_v hV h hx h3), tTry_sy hV h hx h3]
    · exact tTries_sy hV l T (fun z hz => hl z (List.mem_cons_of_mem _ hz)) h
theorem tSyncL_ns {P : PT} : ∀ (l : List Nat) (T : TT), (∀ y ∈ l, y < P.1.1) → NS P T → NS P (tSyncL P l T)
  | [], _, _, h => h
  | x :: l, T, hl, h => by
    refine tSyncL_ns l _ (fun y hy => hl y (List.mem_cons_of_mem _ hy)) (fun j hj => ?_)
    unfold tSy1 at hj
    split at hj
    · have hj : va_up T.1.2.1.1 x true j = true := hj
      unfold va_up at hj
      split at hj
      · rename_i e
        rw [e]
        exact hl x List.mem_cons_self
      · exact h j hj
    · exact h j hj
theorem tSync_ns {P : PT} {T : TT} (h : NS P T) : NS P (tSync P T) := tSyncL_ns _ T rg_lt h
theorem tGone_se (T : TT) (x : Nat) : SE T (tGone T x) := fun j hj => by
  rw [(tGone_f T x).2.2.2.2.2.2.2.2.2.2.2] at hj
  unfold va_up at hj
  split at hj
  · cases hj
  · exact hj
theorem tLet_se (P : PT) : ∀ (n : Nat) (W : TT × List Nat) (x : Nat), SE W.1 (tLet P n W x).1
  | 0, _, _ => SE.rf
  | n + 1, W, x => by
    have loop : ∀ (m : Nat) (W : TT × List Nat), SE W.1 (lgLoop (tLet P n) (fun T => lean P T x) m W).1 := by
      intro m
      induction m with
      | zero => exact fun _ => SE.rf
      | succ m ih =>
        intro W
        unfold lgLoop
        cases e : lean P W.1 x with
        | none => exact SE.rf
        | some o => exact (tLet_se P n W o).tr (ih _)
    exact (loop 12 W).tr (tGone_se _ x)
theorem tAway_se (P : PT) (W : TT × List Nat) (x : Nat) : SE W.1 (tAway P W x).1 := by
  unfold tAway
  split
  · exact tLet_se P 13 W x
  · exact SE.rf
theorem tRem_se (P : PT) (x : Nat) : ∀ (l : List Nat) (W : (TT × List Nat) × Nat), SE W.1.1 (tRem P x l W).1.1
  | [], _ => SE.rf
  | y :: l, W => by
    unfold tRem
    split
    · exact (tAway_se P W.1 y).tr (tRem_se P x l (tAway P W.1 y, W.2 + 1))
    · exact tRem_se P x l W
theorem tWd_se (P : PT) (v : Nat) : ∀ (n : Nat) (W : TT × List Nat), SE W.1 (tWd P v n W).1
  | 0, _ => SE.rf
  | n + 1, W => by
    unfold tWd
    cases latB W.1 v with
    | none => exact SE.rf
    | some x => exact (tLet_se P 13 W x).tr (tWd_se P v n (tIdle (tLet P 13 W x).1 x, (tLet P 13 W x).2))
section NSP
variable {P : PT} {T : TT}
theorem pAdd_ns (hV : PV P) (hI : IV P T) (h : NS P T) (v : Int32) : NS P (pAdd P T v).2 := by
  unfold pAdd
  split
  · rename_i e
    obtain ⟨x, hx, rfl⟩ := (inN_iff (by have := hV.1; omega)).mp e.1
    have h12 := hV.1
    rw [nI_clamp (by omega)] at e ⊢
    have h3 : T.1.1.1.1 x ≠ 3 := by omega
    have hO := IV_open hI h3
    have h3' : (u_st T (va_up T.1.1.1.1 x 1)).1.1.1.1 x ≠ 3 := by show va_up T.1.1.1.1 x 1 x ≠ 3; rw [va_up_self]; decide
    refine tSync_ns (SE.ns (SE.of ?_) h)
    rw [tSettle_sy hV _ _ _ (tTry_v hV hO hx h3'), tTry_sy hV hO hx h3']
  · exact h
theorem pLoad_ns (hV : PV P) (hI : IV P T) (h : NS P T) (v : Int32) : NS P (pLoad P T v).2 := by
  unfold pLoad
  split
  · refine tSync_ns (SE.ns (SE.of ?_) h)
    unfold tLoad0
    rw [tSettle_sy hV _ _ _ (tTries_v hV _ _ rg_lt (IV_ld hI)).1, tTries_sy hV _ _ rg_lt (IV_ld hI)]
  · exact h
theorem pResc_ns (hV : PV P) (hI : IV P T) (h : NS P T) : NS P (pResc P T).2 := by
  refine tSync_ns (SE.ns (SE.of ?_) h)
  rw [tSettle_sy hV _ _ _ (tTries_v hV _ _ rg_lt hI).1, tTries_sy hV _ _ rg_lt hI]
theorem pUnb_ns (h : NS P T) (v : Int32) : NS P (pUnb P T v).2 := by
  unfold pUnb
  split
  · exact tSync_ns ((tLet_se P 13 (T, []) v.toNatClampNeg).ns h)
  · exact h
theorem pRemv_ns (h : NS P T) (v : Int32) : NS P (pRemv P T v).2 := by
  unfold pRemv
  split
  · exact tSync_ns ((tRem_se P v.toNatClampNeg _ ((T, []), 0)).ns h)
  · exact h
theorem pUnl_ns (h : NS P T) (v : Int32) : NS P (pUnl P T v).2 := by
  unfold pUnl
  split
  · exact tSync_ns ((tWd_se P v.toNatClampNeg 12 (u_ld T _, [])).ns h)
  · exact h
theorem pForg_ns (h : NS P T) (v : Int32) : NS P (pForg P T v).2 := by
  unfold pForg
  split
  · exact h
  · exact h
theorem pBind_ns (hV : PV P) (hI : IV P T) (h : NS P T) (v w : Int32) : NS P (pBind P T v w).2 := by
  unfold pBind
  split
  · rename_i e
    have h12 := hV.1
    have h8 := hV.2.1
    obtain ⟨x, hx, rfl⟩ := (inN_iff (by omega)).mp e.1.1
    obtain ⟨y, hy, rfl⟩ := (inN_iff (by omega)).mp e.2.1
    rw [nI_clamp (by omega), nI_clamp (by omega)] at *
    have h3 := opn_3 e.1.2
    have hE := tEnd1_v hV hI hx hy h3
    have hB : IV P (tBnd1 P T x y) ∧ (tBnd1 P T x y).1.2.1.1 = T.1.2.1.1 := by
      unfold tBnd1
      cases ee : (tEnd1 P T x y).1 with
      | true => exact ⟨hE, tEnd1_sy hV hI hx hy h3⟩
      | false => exact ⟨IV_idle hE ((tEnd1_f hV hI.1 hx hy h3).2.2 ee), tEnd1_sy hV hI hx hy h3⟩
    refine tSync_ns (SE.ns (SE.of ?_) h)
    rw [tSettle_sy hV _ _ _ hB.1, hB.2]
  · exact h
end NSP
