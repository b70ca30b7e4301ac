-- CALLS THAT CHANGE WHAT STANDS, in the reference (bind, rescan, unbind, forget, remove)
noncomputable def pUnb (P : PT) (T : TT) (v : Int32) : Int32 × TT := if inN v P.1.1 = true ∧ T.1.1.1.1 v.toNatClampNeg = 3 then (nI (tLet P 13 (T, []) v.toNatClampNeg).2.length, tUnb P T v.toNatClampNeg) else (-1, T)
def tForg (T : TT) (x : Nat) : TT := u_lk T (va_up T.1.2.2.2 x (T.1.2.2.2 x &&& T.2.1.1.1 x))
def pForg (P : PT) (T : TT) (v : Int32) : Int32 × TT := if inN v P.1.1 = true then (nI (cb (T.1.2.2.2 v.toNatClampNeg) 12) - nI (cb (T.1.2.2.2 v.toNatClampNeg &&& T.2.1.1.1 v.toNatClampNeg) 12), tForg T v.toNatClampNeg) else (-1, T)
def pRemv (P : PT) (T : TT) (v : Int32) : Int32 × TT := if inN v P.1.1 = true ∧ T.1.1.1.1 v.toNatClampNeg ≠ 0 then (nI (tRemv P T v.toNatClampNeg).2, tSync P (tRemv P T v.toNatClampNeg).1.1) else (-1, T)
theorem tLet_st (P : PT) : ∀ (n : Nat) (W : TT × List Nat) (x y : Nat), (tLet P n W x).1.1.1.1.1 y = W.1.1.1.1.1 y ∨ (tLet P n W x).1.1.1.1.1 y = 2
  | 0, _, _, _ => Or.inl rfl
  | n + 1, W, x, y => by
    have loop : ∀ (m : Nat) (W : TT × List Nat), (lgLoop (tLet P n) (fun T => lean P T x) m W).1.1.1.1.1 y = W.1.1.1.1.1 y ∨ (lgLoop (tLet P n) (fun T => lean P T x) m W).1.1.1.1.1 y = 2 := by
      intro m
      induction m with
      | zero => intro W; exact Or.inl rfl
      | succ m ih =>
        intro W
        unfold lgLoop
        cases e : lean P W.1 x with
        | none => exact Or.inl rfl
        | some o =>
          dsimp only
          rcases ih (tLet P n W o) with h | h
          · rw [h]
            exact tLet_st P n W o y
          · exact Or.inr h
    unfold tLet
    dsimp only
    rw [(tGone_f _ x).2.1]
    unfold va_up
    split
    · exact Or.inr rfl
    · exact loop 12 W
theorem und_lt {P : PT} (hV : PV P) {x : Nat} : ∀ (n y : Nat), y < P.1.1 → y < x → und P x n y = false
  | 0, y, _, h => by unfold und; exact decide_eq_false (by omega)
  | n + 1, y, hy, h => by
    unfold und
    rw [decide_eq_false (by omega), Bool.false_or]
    cases e : P.2.1 y with
    | none => rfl
    | some k =>
      have := hV.2.2.2.1 y hy k e
      exact und_lt hV n k (by omega) (by omega)
/-- those strictly below go away, downwards -/
def tRn (P : PT) (x : Nat) : List Nat → (TT × List Nat) × Nat → (TT × List Nat) × Nat
  | [], W => W
  | y :: l, W => tRn P x l (if W.1.1.1.1.1.1 y ≠ 0 ∧ (y ≠ x ∧ und P x 12 y = true) then (tAway P W.1 y, W.2 + 1) else W)
theorem tRem_app {P : PT} {x : Nat} : ∀ (l m : List Nat) (W : (TT × List Nat) × Nat), tRem P x (l ++ m) W = tRem P x m (tRem P x l W)
  | [], _, _ => rfl
  | y :: l, m, W => by
    show tRem P x (l ++ m) _ = tRem P x m (tRem P x l _)
    exact tRem_app l m _
theorem tRn_app {P : PT} {x : Nat} : ∀ (l m : List Nat) (W : (TT × List Nat) × Nat), tRn P x (l ++ m) W = tRn P x m (tRn P x l W)
  | [], _, _ => rfl
  | y :: l, m, W => by
    show tRn P x (l ++ m) _ = tRn P x m (tRn P x l _)
    exact tRn_app l m _
theorem tRem_n {P : PT} {x : Nat} : ∀ (l : List Nat) (W : (TT × List Nat) × Nat), (∀ y ∈ l, y ≠ x) → tRem P x l W = tRn P x l W
  | [], _, _ => rfl
  | y :: l, W, h => by
    unfold tRem tRn
    have hy := h y List.mem_cons_self
    rw [tRem_n l _ (fun z hz => h z (List.mem_cons_of_mem _ hz))]
    congr 1
    by_cases e : W.1.1.1.1.1.1 y ≠ 0 ∧ und P x 12 y = true
    · rw [if_pos e, if_pos ⟨e.1, hy, e.2⟩]
    · rw [if_neg e, if_neg (fun z => e ⟨z.1, z.2.2⟩)]
theorem tRn_lo {P : PT} {x : Nat} (hV : PV P) : ∀ (l : List Nat) (W : (TT × List Nat) × Nat), (∀ y ∈ l, y < P.1.1 ∧ y ≤ x) → tRn P x l W = W
  | [], _, _ => rfl
  | y :: l, W, h => by
    unfold tRn
    have hy := h y List.mem_cons_self
    rw [if_neg (fun z => by
      have := und_lt (x := x) hV 12 y hy.1 (by have := hy.2; have := z.2.1; omega)
      rw [z.2.2] at this
      cases this)]
    exact tRn_lo hV l W (fun z hz => h z (List.mem_cons_of_mem _ hz))
theorem tAway_st {P : PT} {W : TT × List Nat} {x y : Nat} (h : x ≠ y) (h0 : W.1.1.1.1.1 x ≠ 0) : (tAway P W y).1.1.1.1.1 x ≠ 0 := by
  unfold tAway
  split
  · show va_up (tLet P 13 W y).1.1.1.1.1 y 0 x ≠ 0
    rw [va_up_ne _ _ h]
    rcases tLet_st P 13 W y x with e | e
    · rw [e]; exact h0
    · rw [e]; decide
  · show va_up W.1.1.1.1.1 y 0 x ≠ 0
    rw [va_up_ne _ _ h]
    exact h0
theorem tRn_st {P : PT} {x : Nat} : ∀ (l : List Nat) (W : (TT × List Nat) × Nat), W.1.1.1.1.1.1 x ≠ 0 → (tRn P x l W).1.1.1.1.1.1 x ≠ 0
  | [], _, h => h
  | y :: l, W, h => by
    unfold tRn
    refine tRn_st l _ ?_
    split
    · rename_i e
      exact tAway_st (fun z => e.2.1 z.symm) h
    · exact h
theorem und_self (P : PT) (x n : Nat) : und P x n x = true := by
  cases n with
  | zero => unfold und; exact decide_eq_true rfl
  | succ n => unfold und; rw [decide_eq_true rfl, Bool.true_or]
theorem rgr_split {x n : Nat} (h : x < n) : ∃ Hi Lo, (List.range n).reverse = Hi ++ x :: Lo ∧ (∀ y ∈ Hi, y ≠ x ∧ y < n) ∧ (∀ y ∈ Lo, y < n ∧ y ≤ x) := by
  induction n with
  | zero => omega
  | succ n ih =>
    rw [List.range_succ, List.reverse_append, List.reverse_singleton, List.singleton_append]
    by_cases e : x = n
    · subst e
      refine ⟨[], (List.range x).reverse, rfl, fun y hy => absurd hy (by simp), fun y hy => ?_⟩
      have := List.mem_range.mp (List.mem_reverse.mp hy)
      omega
    · obtain ⟨Hi, Lo, h1, h2, h3⟩ := ih (by omega)
      refine ⟨n :: Hi, Lo, by rw [h1]; rfl, fun y hy => ?_, fun y hy => ⟨by have := (h3 y hy).1; omega, (h3 y hy).2⟩⟩
      rcases List.mem_cons.mp hy with hy | hy
      · omega
      · have := h2 y hy
        exact ⟨this.1, by omega⟩
theorem tRemv_n {P : PT} {T : TT} {x : Nat} (hV : PV P) (hx : x < P.1.1) (h0 : T.1.1.1.1 x ≠ 0) : tRemv P T x = (tAway P (tRn P x (List.range P.1.1).reverse ((T, []), 0)).1 x, (tRn P x (List.range P.1.1).reverse ((T, []), 0)).2 + 1) := by
  obtain ⟨Hi, Lo, h1, h2, h3⟩ := rgr_split hx
  unfold tRemv
  rw [h1, tRem_app, tRn_app, tRem_n Hi _ (fun y hy => (h2 y hy).1)]
  generalize hW : tRn P x Hi ((T, []), 0) = W
  have hs : W.1.1.1.1.1.1 x ≠ 0 := by rw [← hW]; exact tRn_st Hi _ h0
  have e1 : tRn P x (x :: Lo) W = W := tRn_lo hV (x :: Lo) W (fun y hy => by
    rcases List.mem_cons.mp hy with hy | hy
    · rw [hy]; exact ⟨hx, Nat.le_refl _⟩
    · exact h3 y hy)
  rw [e1]
  show tRem P x Lo (if W.1.1.1.1.1.1 x ≠ 0 ∧ und P x 12 x = true then _ else _) = _
  rw [if_pos ⟨hs, und_self P x 12⟩]
  have e2 : ∀ (l : List Nat) (V : (TT × List Nat) × Nat), (∀ y ∈ l, y < P.1.1 ∧ y < x) → tRem P x l V = V := by
    intro l
    induction l with
    | nil => intro V _; rfl
    | cons y l ih =>
      intro V hl
      unfold tRem
      have hy := hl y List.mem_cons_self
      rw [if_neg (fun z => by
        have := und_lt hV 12 y hy.1 hy.2
        rw [z.2] at this
        cases this)]
      exact ih V (fun z hz => hl z (List.mem_cons_of_mem _ hz))
  refine e2 Lo _ (fun y hy => ⟨(h3 y hy).1, ?_⟩)
  have hnd : (List.range P.1.1).reverse.Nodup := by
    unfold List.Nodup
    rw [List.pairwise_reverse]
    exact (List.nodup_range (n := P.1.1)).imp (fun h => Ne.symm h)
  rw [h1, List.nodup_append] at hnd
  have := (List.nodup_cons.mp hnd.2.1).1
  have h4 := (h3 y hy).2
  have : y ≠ x := fun z => this (by rw [← z]; exact hy)
  omega
section MOPS2
variable {ρ : Nat × (Nat → Int32)} {d : Nat} {c : Nat × Nat} {R : Nat → Nat → Option Nat} {I : Nat → Nat → Int32} {L : Nat → Nat → Int64} {P : PT} {sd : Nat} {T : TT}
theorem M_bind_e (h : MX P sd T I) (hT : IV P T) (hc : T.2.2.2.2 + 24 < 2 ^ 30) (v w : Int32) : ∃ J, EV ρ (d + 30) 76 0 [.ref 257, .int v, .int w] [] (mk c R I L) = some ([.int (pBind P T v w).1], mk c R J L) ∧ MX P sd (pBind P T v w).2 J ∧ FT I J := by
  have hV := h.1
  have h12 := hV.1
  have h8 := hV.2.1
  have h1 := MX_z2 (j := 2) (v := nI 0) h (by decide)
  have hF1 : FT I (z2 I 257 2 (nI 0)) := FT.rf.z2 (Or.inl rfl)
  rw [bM_bind_0, bM_bind_5, M_isDevice_e h1.2.1 h12, zci, bM_bind_10]
  unfold pBind
  by_cases hi : inN v P.1.1 = true
  · obtain ⟨x, hx, rfl⟩ := (inN_iff (by omega)).mp hi
    rw [nI_clamp (by omega), hi, if_neg (by decide), M_isOpen_e h1.2.2 (by omega) (hT.1.1.1 x), zci, bM_bind_18]
    cases eo : opn T x with
    | false =>
      rw [if_pos (by decide), if_neg (fun z => by cases z.1.2)]
      exact ⟨_, rfl, h1, hF1⟩
    | true =>
      rw [if_neg (by decide), M_isDriver_e h1.2.1 h8, zci, bM_bind_26]
      by_cases hj : inN w P.1.2.1 = true
      · obtain ⟨r, hr, rfl⟩ := (inN_iff (by omega)).mp hj
        rw [nI_clamp (by omega), hj, if_neg (by decide), M_isLoaded_e h1.2.2 (by omega), zci, bM_bind_34]
        cases el : bt T.2.2.1.2 r with
        | false =>
          rw [if_pos (by decide), if_neg (fun z => by cases z.2.2)]
          exact ⟨_, rfl, h1, hF1⟩
        | true =>
          have h2 := MX_z2 (j := 31) (v := nI 0) h1 (by decide)
          have hF2 : FT I (z2 (z2 I 257 2 (nI 0)) 257 31 (nI 0)) := hF1.z2 (by omega)
          have h3 := opn_3 eo
          obtain ⟨J, g1, g2, g3, g4⟩ := M_endsBy_e (ρ := ρ) (d := d + 20) (c := c) (R := R) (L := L) h2 hT.1 hx hr h3
          obtain ⟨f1, f2, f3⟩ := tEnd1_f hV hT.1 hx hr h3
          have hbn := g4.at (c0 := T.2.2.2.2) (by rw [z2a, if_pos ⟨rfl, rfl⟩, Nat.sub_self]) (Nat.le_refl _) f2.2.2.1
          rw [if_neg (by decide), bM_bind_44, g1, zci, bM_bind_50, if_pos (show (true = true ∧ true = true) ∧ true = true ∧ true = true from ⟨⟨rfl, rfl⟩, rfl, rfl⟩)]
          have fin : ∀ (U : TT) (K : Nat → Nat → Int32), MX P sd U K → TI P U → BF T U → K 257 31 = nI (U.2.2.2.2 - T.2.2.2.2) → FT I K → ∃ J, EV ρ (d + 30) 76 58 [.ref 257, .int (nI x), zU] [] (mk c R K L) = some ([.int (nI ((tSync P (tSettle P 13 T.2.2.2.2 U)).1.1.1.1 x))], mk c R J L) ∧ MX P sd (tSync P (tSettle P 13 T.2.2.2.2 U)) J ∧ FT I J := fun U K hU hUT hB hK hF => by
            have hcc := cn_lt hV hT.1.1 hUT.1 hB hc
            obtain ⟨J2, K2, k1, k2, k3, k4, k5⟩ := M_fin (ρ := ρ) (d := d) (c := c) (R := R) (L := L) hU hUT (c0 := T.2.2.2.2) hB.2.2.1 hcc hK
            rw [bM_bind_58, k1, zcv, bM_bind_63, k2, zcv, bM_bind_67, nI_add, Nat.zero_add, zidx_n (by omega) (by decide), (k3.2.2.1 x (by omega)).1]
            exact ⟨K2, rfl, k3, hF.tr k4.t⟩
          unfold tBind tBnd1
          cases ee : (tEnd1 P T x r).1 with
          | true =>
            rw [if_neg (by decide), if_pos rfl]
            exact fin _ J g2 f1 f2 hbn (hF2.tr g3.t)
          | false =>
            rw [if_pos (by decide), if_neg (by decide)]
            obtain ⟨s, r1, r2⟩ := M_idles_e (ρ := ρ) (d := d + 26) (c := c) (R := R) (L := L) g2.2.2 (f1.1.bnd hV) (f1.1.row hV) (show x < 12 by omega) (f3 ee)
            rw [r1, zcv]
            exact fin _ _ (MX_up g2 r2) (TI_idle f1 (f3 ee)) (f2.tr (BF_idle (f3 ee))) (by rw [va_257]; exact hbn) ((hF2.tr g3.t).up _)
      · rw [Bool.eq_false_iff.mpr hj, if_pos (by decide), if_neg (fun z => by cases z.2.1)]
        exact ⟨_, rfl, h1, hF1⟩
  · rw [Bool.eq_false_iff.mpr hi, if_pos (by decide), if_neg (fun z => by cases z.1.1)]
    exact ⟨_, rfl, h1, hF1⟩
theorem M_rescan_l : ∀ (n k : Nat) (T : TT) (I : Nat → Nat → Int32), k + n = P.1.1 → MX P sd T I → IV P T → ∃ J, EV ρ (d + 30) 77 12 [.ref 257, .int (nI k)] [] (mk c R I L) = zcV (EV ρ (d + 29) 58 0 [.ref 257, .int (nI 0), zU, zU, zU] [] (mk c R J L)) (fun s1 => EV ρ (d + 30) 77 44 [.ref 257, zU] [] s1) ∧ MX P sd (tTries P (fun _ => true) ((List.range P.1.1).drop k) T) J ∧ FM I J ∧ BN I J T (tTries P (fun _ => true) ((List.range P.1.1).drop k) T) := by
  intro n
  induction n with
  | zero =>
    intro k T I hk h hT
    have h12 := h.1.1
    rw [rg_nil (by omega), bM_rescan_12, M_devices_e h.2.1, zci, bM_rescan_17, if_pos (nI_le (by omega) (by omega))]
    exact ⟨I, rfl, h, FM.rf, BN.rf⟩
  | succ n ih =>
    intro k T I hk h hT
    have h12 := h.1.1
    rw [rg_cons (by omega), bM_rescan_12, M_devices_e h.2.1, zci, bM_rescan_17, if_neg (nI_ge (by omega) (by omega)), M_isOpen_e h.2.2 (by omega) (hT.1.1.1 k), zci, bM_rescan_25]
    unfold tTries
    rw [Bool.and_true]
    cases eo : opn T k with
    | false =>
      rw [if_pos (by decide), bM_rescan_33, nI_add, if_neg (by decide)]
      exact ih (k + 1) T I (by omega) h hT
    | true =>
      have h3 := opn_3 eo
      obtain ⟨J, g1, g2, g3, g4⟩ := M_tries_e (ρ := ρ) (d := d + 19) (c := c) (R := R) (L := L) h hT.1 (show k < P.1.1 by omega) h3
      rw [if_neg (by decide), g1, zcv, bM_rescan_33, nI_add, if_pos rfl]
      obtain ⟨J2, k1, k2, k3, k4⟩ := ih (k + 1) _ J (by omega) g2 (tTry_v h.1 hT (by omega) h3)
      exact ⟨J2, k1, k2, g3.tr k3, g4.tr k4⟩
theorem M_rescan_e (h : MX P sd T I) (hT : IV P T) (hc : T.2.2.2.2 + 24 < 2 ^ 30) : ∃ J, EV ρ (d + 30) 77 0 [.ref 257, zU] [] (mk c R I L) = some ([.int (pResc P T).1], mk c R J L) ∧ MX P sd (pResc P T).2 J ∧ FT I J := by
  have hV := h.1
  have h1 := MX_z2 (j := 31) (v := nI 0) (MX_z2 (j := 2) (v := nI 0) h (by decide)) (by decide)
  have hF1 : FT I (z2 (z2 I 257 2 (nI 0)) 257 31 (nI 0)) := (FT.rf.z2 (Or.inl rfl)).z2 (by omega)
  rw [bM_rescan_0, bM_rescan_5, bM_rescan_10]
  obtain ⟨J, g1, g2, g3, g4⟩ := M_rescan_l (ρ := ρ) (d := d) (c := c) (R := R) (L := L) P.1.1 0 _ _ (by omega) h1 hT
  rw [List.drop_zero] at g2 g4
  obtain ⟨f1, f2⟩ := tTries_v (p := fun _ => true) hV (List.range P.1.1) _ rg_lt hT
  have hbn := g4.at (c0 := T.2.2.2.2) (by rw [z2a, if_pos ⟨rfl, rfl⟩, Nat.sub_self]) (Nat.le_refl _) f2.2.2.1
  have hcc := cn_lt hV hT.1.1 f1.1.1 f2 hc
  obtain ⟨J2, K2, k1, k2, k3, k4, k5⟩ := M_fin (ρ := ρ) (d := d) (c := c) (R := R) (L := L) g2 f1.1 (c0 := T.2.2.2.2) f2.2.2.1 hcc hbn
  rw [g1, k1, zcv, bM_rescan_44, k2, zcv, bM_rescan_48, k5]
  exact ⟨K2, rfl, k3, (hF1.tr g3.t).tr k4.t⟩
theorem M_letsGo_e (h : MX P sd T I) (hT : IV P T) (hc : T.2.2.2.2 < 2 ^ 31) {x : Nat} (hx : x < P.1.1) (h3 : T.1.1.1.1 x = 3) (hg : GM I []) : ∃ J, EV ρ (d + 18) 65 0 [.ref 257, .int (nI x), zU] [] (mk c R I L) = some ([], mk c R J L) ∧ MX P sd (tLet P 13 (T, []) x).1 J ∧ GM J (tLet P 13 (T, []) x).2 ∧ FX I J := by
  obtain ⟨A, B, hb, hn⟩ := bnd_at h.1 hT.1.1 hx h3
  have := bnd_12 h.1 hT.1.1
  exact M_letsGo_l (ρ := ρ) (c := c) (R := R) (L := L) 13 (d + 13) (T, []) I x A B (by omega) hT.1 hT.2.1 hb hn h hg (by show 0 + T.1.2.2.1.length ≤ 12; omega) hc
theorem GM_0 {J : Nat → Nat → Int32} : GM (z2 J 257 33 (nI 0)) [] := ⟨by rw [z2a, if_pos ⟨rfl, rfl⟩]; rfl, Nat.zero_le _, fun i v hi => by cases hi⟩
theorem M_unbind_e (h : MX P sd T I) (hT : IV P T) (hc : T.2.2.2.2 + 24 < 2 ^ 30) (v : Int32) : ∃ J, EV ρ (d + 30) 75 0 [.ref 257, .int v] [] (mk c R I L) = some ([.int (pUnb P T v).1], mk c R J L) ∧ MX P sd (pUnb P T v).2 J ∧ FT I J := by
  have hV := h.1
  have h12 := hV.1
  have h1 := MX_z2 (j := 2) (v := nI 0) h (by decide)
  have hF1 : FT I (z2 I 257 2 (nI 0)) := FT.rf.z2 (Or.inl rfl)
  have e1 : z2 I 257 2 (nI 0) 274 = I 274 := z2_ne (by decide)
  rw [bM_unbind_0, bM_unbind_5, M_isDevice_e h1.2.1 h12, zci, bM_unbind_10]
  unfold pUnb
  by_cases hi : inN v P.1.1 = true
  · obtain ⟨x, hx, rfl⟩ := (inN_iff (by omega)).mp hi
    have hs := hT.1.1.1 x
    rw [nI_clamp (by omega), hi, if_neg (by decide), nI_add, Nat.zero_add, zidx_n (by omega) (by decide), (h1.2.2.1 x (by omega)).1]
    by_cases e3 : T.1.1.1.1 x = 3
    · have h2 := MX_z2 (j := 33) (v := nI 0) h1 (by decide)
      have hF2 : FT I (z2 (z2 I 257 2 (nI 0)) 257 33 (nI 0)) := hF1.z2 (by omega)
      obtain ⟨A, B, hb, hn⟩ := bnd_at hV hT.1.1 hx e3
      obtain ⟨k0, k1, k2, k3, k8, k9, k10, k11, k12, k13, k14⟩ := tLet_v (W := (T, [])) hV hT hb hn
      obtain ⟨J, g1, g2, g3, g4⟩ := M_letsGo_e (ρ := ρ) (d := d + 11) (c := c) (R := R) (L := L) h2 hT (by omega) hx e3 GM_0
      obtain ⟨s, r1, r2⟩ := M_idles_e (ρ := ρ) (d := d + 26) (c := c) (R := R) (L := L) g2.2.2 (k0.1.1.bnd hV) (k0.1.1.row hV) (show x < 12 by omega) (by rw [k13]; decide)
      have hI := IV_idle (x := x) k0 (by rw [k13]; decide)
      obtain ⟨K, q1, q2, q3, q4⟩ := M_syncs_e (ρ := ρ) (d := d + 25) (c := c) (R := R) (L := L) (MX_up g2 r2) hI.1.1
      rw [if_pos (by rw [e3]), bM_unbind_32, g1, zcv, bM_unbind_37, r1, zcv, bM_unbind_42, q1, zcv, bM_unbind_46, q4, va_257, g3.1, if_pos ⟨rfl, e3⟩]
      exact ⟨K, rfl, q2, ((hF2.tr g4.t).up _).tr q3.t⟩
    · rw [if_neg (by rw [nI_eq (by omega) (by decide)]; exact e3), if_neg (fun z => e3 z.2)]
      exact ⟨_, rfl, h1, hF1⟩
  · rw [Bool.eq_false_iff.mpr hi, if_pos (by decide), if_neg (fun z => by cases z.1)]
    exact ⟨_, rfl, h1, hF1⟩
theorem M_count_l (S : Int32) {n : Nat} (hn : n ≤ 32) : ∀ (m k : Nat), k + m = n → EV ρ (d + 2) 4 4 [.int S, .int (nI n), .int (nI (cb S k)), .int (nI k)] [] (mk c R I L) = some ([.int (nI (cb S n))], mk c R I L) := by
  intro m
  induction m with
  | zero =>
    intro k hk
    obtain rfl : k = n := by omega
    rw [bM_count2_4, if_pos (nI_le (by omega) (by omega))]
  | succ m ih =>
    intro k hk
    rw [bM_count2_4, if_neg (nI_ge (by omega) (by omega)), M_has_e _ (by omega), zci, bM_count2_14, nI_add k 1]
    have e : cb S (k + 1) = cb S k + (if bt S k then 1 else 0) := rfl
    cases hb : bt S k with
    | false =>
      rw [if_pos (by decide)]
      rw [hb] at e
      have := ih (k + 1) (by omega)
      rw [e] at this
      exact this
    | true =>
      rw [if_neg (by decide), nI_add]
      rw [hb] at e
      have := ih (k + 1) (by omega)
      rw [e] at this
      exact this
theorem M_count_e (S : Int32) {n : Nat} (hn : n ≤ 32) : EV ρ (d + 2) 4 0 [.int S, .int (nI n), zU, zU] [] (mk c R I L) = some ([.int (nI (cb S n))], mk c R I L) := by
  rw [bM_count2_0]
  exact M_count_l S hn n 0 (by omega)
theorem M_forget_e (h : MX P sd T I) (hT : IV P T) (v : Int32) : ∃ J, EV ρ (d + 30) 78 0 [.ref 257, .int v, zU] [] (mk c R I L) = some ([.int (pForg P T v).1], mk c R J L) ∧ MX P sd (pForg P T v).2 J ∧ FT I J := by
  have hV := h.1
  have h12 := hV.1
  have h1 := MX_z2 (j := 2) (v := nI 0) h (by decide)
  have hF1 : FT I (z2 I 257 2 (nI 0)) := FT.rf.z2 (Or.inl rfl)
  have e1 : z2 I 257 2 (nI 0) 274 = I 274 := z2_ne (by decide)
  rw [bM_forget_0, bM_forget_5, M_isDevice_e h1.2.1 h12, zci, bM_forget_10]
  unfold pForg
  by_cases hi : inN v P.1.1 = true
  · obtain ⟨x, hx, rfl⟩ := (inN_iff (by omega)).mp hi
    obtain ⟨-, -, -, q1, q2⟩ := h1.2.2.2.1 x (by omega)
    rw [nI_clamp (by omega), hi, if_neg (by decide), nI_add, nI_add, zidx_n (by omega) (by decide), zidx_n (by omega) (by decide), zidx_n (by omega) (by decide), zidx_n (by omega) (by decide), q1, q2, bM_forget_46, M_count_e _ (by omega), zci, bM_forget_52, nI_add, zidx_n (by omega) (by decide)]
    have e4 : ∀ w, z2 (z2 I 257 2 (nI 0)) 274 (84 + x) w = va_up (z2 I 257 2 (nI 0)) 274 (va_up (I 274) (84 + x) w) := fun w => by rw [← e1]; rfl
    rw [e4, va_s, va_up_self, M_count_e _ (by omega), zci, bM_forget_66, if_pos rfl]
    exact ⟨_, rfl, MX_up h1 (MR_lk (by omega) _ h.2.2 (hT.1.1.bnd hV)), hF1.up _⟩
  · rw [Bool.eq_false_iff.mpr hi, if_pos (by decide), if_neg (by decide)]
    exact ⟨_, rfl, h1, hF1⟩
end MOPS2
