-- CALLS THAT CHANGE WHAT STANDS, on the pure state
theorem IV_st {P : PT} {T U : TT} (h : IV P T) (hI : TI P U) (h1 : U.1.2.2.1 = T.1.2.2.1) (h2 : U.2.1.1.1 = T.2.1.1.1) (h3 : ∀ y, U.1.1.1.1 y = 3 ↔ T.1.1.1.1 y = 3) (h4 : U.2.1.2.1 = T.2.1.2.1) (h5 : U.2.1.1.2 = T.2.1.1.2) (h6 : U.2.2.2.1 = T.2.2.2.1) : IV P U := by
  obtain ⟨-, hL, hB, hG, hN⟩ := h
  refine ⟨hI, ⟨?_, fun y hy => ?_, fun y => ?_⟩, fun a ha h3a y hy => ?_, GI_to hG h4 h5 h6, fun y hy => hN y ((h3 y).mp hy)⟩
  · rw [h1]
    refine hL.1.imp (fun {a b} hab => ?_)
    unfold hg at hab ⊢
    rw [h2]
    exact hab
  · rw [h2]
    exact hL.2.1 y (fun z => hy ((h3 y).mpr z))
  · rw [h2]
    exact hL.2.2 y
  · rw [h2] at hy
    exact (h3 y).mpr (hB a ha ((h3 a).mp h3a) y hy)
theorem IV_defer {P : PT} {T : TT} {x : Nat} (h : IV P T) (hx : x < P.1.1) (h3 : T.1.1.1.1 x ≠ 3) : IV P (tDefer T x) := IV_st h (TI_defer h.1 hx h3) rfl rfl (st_3 h3 (by decide)) rfl rfl rfl
theorem IV_idle {P : PT} {T : TT} {x : Nat} (h : IV P T) (h3 : T.1.1.1.1 x ≠ 3) : IV P (tIdle T x) := IV_st h (TI_idle h.1 h3) rfl rfl (st_3 h3 (by decide)) rfl rfl rfl
theorem IV_sync {P : PT} {T : TT} (h : IV P T) : IV P (tSync P T) := by
  have hs := SF_sync P T
  exact IV_st h (hs.ti h.1) hs.2.2.2.2.2.1 hs.2.2.2.2.2.2.2.1 (fun y => by rw [hs.1]) hs.2.2.2.2.2.2.2.2.2.1 hs.2.2.2.2.2.2.2.2.1 hs.2.2.2.2.2.2.2.2.2.2.2.2.1
theorem tEnd1_v {P : PT} {T : TT} {x v : Nat} (hV : PV P) (h : IV P T) (hx : x < P.1.1) (hvn : v < P.1.2.1) (h3 : T.1.1.1.1 x ≠ 3) : IV P (tEnd1 P T x v).2 := by
  obtain ⟨g1, g2, g3, g4, g5⟩ := tProbe_f hV h.1 hx hvn h3
  have hp := tProbe_v hV h hx hvn h3
  unfold tEnd1
  split
  · rename_i e
    exact IV_defer hp hx (by rw [(g5 (by omega)).2]; exact h3)
  · exact hp
theorem tTryL_v {P : PT} {x : Nat} (hV : PV P) (hx : x < P.1.1) : ∀ (l : List Nat) (T : TT), (∀ v ∈ l, v < P.1.2.1) → IV P T → T.1.1.1.1 x ≠ 3 → IV P (tTryL P x l T)
  | [], T, _, h, h3 => IV_idle h h3
  | v :: l, T, hl, h, h3 => by
    obtain ⟨g1, g2, g3⟩ := tEnd1_f hV h.1 hx (hl v List.mem_cons_self) h3
    have hv := tEnd1_v hV h hx (hl v List.mem_cons_self) h3
    unfold tTryL
    cases e : (tEnd1 P T x v).1 with
    | true => exact hv
    | false => exact tTryL_v hV hx l _ (fun w hw => hl w (List.mem_cons_of_mem _ hw)) hv (g3 e)
theorem tTry_v {P : PT} {T : TT} {x : Nat} (hV : PV P) (hT : IV P T) (hx : x < P.1.1) (h3 : T.1.1.1.1 x ≠ 3) : IV P (tTry P T x) := tTryL_v hV hx _ T (fun _ hv => lnL_lt hV hx hv) hT h3
theorem tPass_v {P : PT} (hV : PV P) : ∀ (l : List Nat) (T : TT), (∀ y ∈ l, y < P.1.1) → IV P T → IV P (tPass P l T)
  | [], T, _, h => h
  | x :: l, T, hl, h => by
    unfold tPass
    split
    · rename_i e
      exact tPass_v hV l _ (fun y hy => hl y (List.mem_cons_of_mem _ hy)) (tTry_v hV h (hl x List.mem_cons_self) (by omega))
    · exact tPass_v hV l T (fun y hy => hl y (List.mem_cons_of_mem _ hy)) h
theorem tSettle_v {P : PT} (hV : PV P) : ∀ (n had : Nat) (T : TT), IV P T → IV P (tSettle P n had T)
  | 0, _, T, h => h
  | n + 1, had, T, h => by
    unfold tSettle
    split
    · exact tSettle_v hV n T.2.2.2.2 _ (tPass_v hV T.1.2.1.2 T h.1.1.2.1.2 h)
    · exact h
theorem tLet_v {P : PT} {W : TT × List Nat} {x : Nat} {A B : List Nat} (hV : PV P) (h : IV P W.1) (hb : W.1.1.2.2.1 = A ++ x :: B) (hn : B.length < 13) : IV P (tLet P 13 W x).1 ∧ LK P A B x W (tLet P 13 W x) := by
  have hk := tLet_f hV 13 W x A B h.1 h.2.1 hb hn
  obtain ⟨k1, k2, k3, k4, k5, k6, k7, k8, k9, k10⟩ := hk
  refine ⟨⟨k1, k2, k10 h.2.2.1, ?_, fun y hy => h.2.2.2.2 y (k8 y hy)⟩, k1, k2, k3, k4, k5, k6, k7, k8, k9, k10⟩
  -- GI: along the recursion
  have key : ∀ (n : Nat) (W : TT × List Nat) (x : Nat), GI W.1 → (∀ y, ∀ z ∈ W.1.2.2.2.1 y, okz z) → GI (tLet P n W x).1 ∧ ∀ y, ∀ z ∈ (tLet P n W x).1.2.2.2.1 y, okz z := by
    intro n
    induction n with
    | zero => intro W x h1 h2; exact ⟨h1, h2⟩
    | succ n ih =>
      intro W x h1 h2
      have loop : ∀ (m : Nat) (W : TT × List Nat), GI W.1 → (∀ y, ∀ z ∈ W.1.2.2.2.1 y, okz z) → GI (lgLoop (tLet P n) (fun T => lean P T x) m W).1 ∧ ∀ y, ∀ z ∈ (lgLoop (tLet P n) (fun T => lean P T x) m W).1.2.2.2.1 y, okz z := by
        intro m
        induction m with
        | zero => intro W h1 h2; exact ⟨h1, h2⟩
        | succ m ihm =>
          intro W h1 h2
          unfold lgLoop
          cases e : lean P W.1 x with
          | none => exact ⟨h1, h2⟩
          | some o =>
            obtain ⟨q1, q2⟩ := ih W o h1 h2
            exact ihm _ q1 q2
      obtain ⟨q1, q2⟩ := loop 12 W h1 h2
      unfold tLet
      refine ⟨GI_gone q1 (q2 x), fun y z hz => ?_⟩
      dsimp only at hz
      rw [(tGone_f _ x).1] at hz
      unfold va_up at hz
      split at hz
      · cases hz
      · exact q2 y z hz
  exact (key 13 W x h.2.2.2.1 h.1.1.2.2.2.2.2.2.2.1).1
theorem bnd_at {P : PT} {T : TT} {x : Nat} (hV : PV P) (hT : TV P T) (hx : x < P.1.1) (h3 : T.1.1.1.1 x = 3) : ∃ A B, T.1.2.2.1 = A ++ x :: B ∧ B.length < 13 := by
  obtain ⟨A, B, e⟩ := List.append_of_mem ((hT.2.2.1.2 x).mpr ⟨hx, h3⟩)
  refine ⟨A, B, e, ?_⟩
  have := bnd_12 hV hT
  rw [e] at this
  simp at this
  omega
/-- it is away -/
def tAwy (T : TT) (x : Nat) : TT := u_ca (u_re (u_st (u_row T (T.1.2.1.2.filter (· ≠ x))) (va_up T.1.1.1.1 x 0)) (va_up T.1.1.2.1 x (nI 0))) (va_up T.1.1.2.2 x (-1))
def tAway (P : PT) (W : TT × List Nat) (x : Nat) : TT × List Nat := if W.1.1.1.1.1 x = 3 then (tAwy (tLet P 13 W x).1 x, (tLet P 13 W x).2) else (tAwy W.1 x, W.2)
theorem IV_awy {P : PT} {T : TT} {x : Nat} (h : IV P T) (h3 : T.1.1.1.1 x ≠ 3) : IV P (tAwy T x) := by
  have hv : TV P (tAwy T x) := TV_ca (TV_re (TV_st (TV_row h.1.1 (h.1.1.2.1.1.sublist List.filter_sublist) (fun y hy => h.1.1.2.1.2 y (List.mem_filter.mp hy).1)) h3 (by decide)))
  exact IV_st h (TI_to h.1 hv rfl rfl (st_3 h3 (by decide))) rfl rfl (st_3 h3 (by decide)) rfl rfl rfl
theorem tAway_v {P : PT} {W : TT × List Nat} {x : Nat} (hV : PV P) (h : IV P W.1) (hx : x < P.1.1) : IV P (tAway P W x).1 ∧ (tAway P W x).1.2.2.2.2 = W.1.2.2.2.2 ∧ (tAway P W x).1.1.2.2.1.length ≤ W.1.1.2.2.1.length ∧ (tAway P W x).2.length + (tAway P W x).1.1.2.2.1.length = W.2.length + W.1.1.2.2.1.length := by
  unfold tAway
  split
  · rename_i e
    obtain ⟨A, B, hb, hn⟩ := bnd_at hV h.1.1 hx e
    obtain ⟨k0, k1, k2, ⟨B', k3, k4, G, k5, k6, k7⟩, k8, k9, k10, k11, k12, k13, k14⟩ := tLet_v hV h hb hn
    refine ⟨IV_awy k0 (by rw [k13]; decide), k8, ?_, ?_⟩
    · show (tLet P 13 W x).1.1.2.2.1.length ≤ _
      rw [k4, hb]
      have := k3.length_le
      simp
      omega
    · show (tLet P 13 W x).2.length + (tLet P 13 W x).1.1.2.2.1.length = _
      rw [k4, hb, k5]
      simp
      omega
  · rename_i e
    exact ⟨IV_awy h e, rfl, Nat.le_refl _, rfl⟩
/-- x or one below it -/
def und (P : PT) (x : Nat) : Nat → Nat → Bool
  | 0, y => decide (y = x)
  | n + 1, y => decide (y = x) || (match P.2.1 y with
    | none => false
    | some k => und P x n k)
/-- those below go away, downwards; how many -/
def tRem (P : PT) (x : Nat) : List Nat → (TT × List Nat) × Nat → (TT × List Nat) × Nat
  | [], W => W
  | y :: l, W => tRem P x l (if W.1.1.1.1.1.1 y ≠ 0 ∧ und P x 12 y = true then (tAway P W.1 y, W.2 + 1) else W)
theorem tRem_v {P : PT} {x : Nat} (hV : PV P) : ∀ (l : List Nat) (W : (TT × List Nat) × Nat), (∀ y ∈ l, y < P.1.1) → IV P W.1.1 → IV P (tRem P x l W).1.1 ∧ (tRem P x l W).1.1.2.2.2.2 = W.1.1.2.2.2.2
  | [], _, _, h => ⟨h, rfl⟩
  | y :: l, W, hl, h => by
    unfold tRem
    split
    · obtain ⟨k1, k2, -⟩ := tAway_v hV h (hl y List.mem_cons_self)
      obtain ⟨q1, q2⟩ := tRem_v (x := x) hV l (tAway P W.1 y, W.2 + 1) (fun z hz => hl z (List.mem_cons_of_mem _ hz)) k1
      exact ⟨q1, q2.trans k2⟩
    · exact tRem_v hV l W (fun z hz => hl z (List.mem_cons_of_mem _ hz)) h
/-- all of a list that are open and for which p holds are tried -/
noncomputable def tTries (P : PT) (p : Nat → Bool) : List Nat → TT → TT
  | [], T => T
  | x :: l, T => tTries P p l (if opn T x && p x then tTry P T x else T)
theorem opn_3 {T : TT} {x : Nat} (h : opn T x = true) : T.1.1.1.1 x ≠ 3 := by
  unfold opn at h
  have := of_decide_eq_true h
  omega
theorem tTries_v {P : PT} {p : Nat → Bool} (hV : PV P) : ∀ (l : List Nat) (T : TT), (∀ y ∈ l, y < P.1.1) → IV P T → IV P (tTries P p l T) ∧ BF T (tTries P p l T)
  | [], _, _, h => ⟨h, BF.rf⟩
  | x :: l, T, hl, h => by
    unfold tTries
    split
    · rename_i e
      have h3 := opn_3 (Bool.and_eq_true_iff.mp e).1
      obtain ⟨q1, q2⟩ := tTries_v (p := p) hV l (tTry P T x) (fun z hz => hl z (List.mem_cons_of_mem _ hz)) (tTry_v hV h (hl x List.mem_cons_self) h3)
      exact ⟨q1, (tTry_f hV h.1 (hl x List.mem_cons_self) h3).2.tr q2⟩
    · exact tTries_v hV l T (fun z hz => hl z (List.mem_cons_of_mem _ hz)) h
theorem IV_ld {P : PT} {T : TT} {v : Int32} (h : IV P T) : IV P (u_ld T v) := IV_st h (TI_to h.1 h.1.1 rfl rfl (fun _ => Iff.rfl)) rfl rfl (fun _ => Iff.rfl) rfl rfl rfl
theorem rg_lt {n : Nat} : ∀ y ∈ List.range n, y < n := fun _ hy => List.mem_range.mp hy
/-- a driver is loaded, what waits for it is tried, passes -/
noncomputable def tLoad0 (P : PT) (T : TT) (v : Nat) : TT := tSettle P 13 T.2.2.2.2 (tTries P (fun x => (P.2.2.2.2.1 v x).isSome) (List.range P.1.1) (u_ld T (T.2.2.1.2 ||| (nI 1 <<< (nI v &&& 31)))))
noncomputable def tLoad (P : PT) (T : TT) (v : Nat) : TT := tSync P (tLoad0 P T v)
noncomputable def tAdd (P : PT) (T : TT) (x : Nat) : TT := tSync P (tSettle P 13 T.2.2.2.2 (tTry P (u_st T (va_up T.1.1.1.1 x 1)) x))
noncomputable def tResc (P : PT) (T : TT) : TT := tSync P (tSettle P 13 T.2.2.2.2 (tTries P (fun _ => true) (List.range P.1.1) T))
noncomputable def tBnd1 (P : PT) (T : TT) (x v : Nat) : TT := if (tEnd1 P T x v).1 then (tEnd1 P T x v).2 else tIdle (tEnd1 P T x v).2 x
noncomputable def tBind (P : PT) (T : TT) (x v : Nat) : TT := tSync P (tSettle P 13 T.2.2.2.2 (tBnd1 P T x v))
def tUnb (P : PT) (T : TT) (x : Nat) : TT := tSync P (tIdle (tLet P 13 (T, []) x).1 x)
def tRemv (P : PT) (T : TT) (x : Nat) : (TT × List Nat) × Nat := tRem P x (List.range P.1.1).reverse ((T, []), 0)
/-- the one bound to v latest -/
def latB (T : TT) (v : Nat) : Option Nat := T.1.2.2.1.reverse.find? (fun x => decide (T.1.1.1.2 x = v))
def tWd (P : PT) (v : Nat) : Nat → TT × List Nat → TT × List Nat
  | 0, W => W
  | n + 1, W => match latB W.1 v with
    | none => W
    | some x => tWd P v n (tIdle (tLet P 13 W x).1 x, (tLet P 13 W x).2)
def tUnl (P : PT) (T : TT) (v : Nat) : TT × List Nat := tWd P v 12 (u_ld T (T.2.2.1.2 &&& ((nI 1 <<< (nI v &&& 31)) ^^^ (-1))), [])
theorem IV_open {P : PT} {T : TT} {x : Nat} (h : IV P T) (h3 : T.1.1.1.1 x ≠ 3) : IV P (u_st T (va_up T.1.1.1.1 x 1)) := IV_st h (TI_to h.1 (TV_st h.1.1 h3 (by decide)) rfl rfl (st_3 h3 (by decide))) rfl rfl (st_3 h3 (by decide)) rfl rfl rfl
theorem latB_s {T : TT} {v x : Nat} (h : latB T v = some x) : x ∈ T.1.2.2.1 ∧ T.1.1.1.2 x = v := by
  unfold latB at h
  have h1 := List.find?_some h
  exact ⟨List.mem_reverse.mp (List.mem_of_find?_eq_some h), by simpa using h1⟩
theorem tWd_v {P : PT} {v : Nat} (hV : PV P) : ∀ (n : Nat) (W : TT × List Nat), IV P W.1 → IV P (tWd P v n W).1 ∧ (tWd P v n W).1.2.2.2.2 = W.1.2.2.2.2 ∧ (tWd P v n W).2.length + (tWd P v n W).1.1.2.2.1.length = W.2.length + W.1.1.2.2.1.length
  | 0, _, h => ⟨h, rfl, rfl⟩
  | n + 1, W, h => by
    unfold tWd
    cases e : latB W.1 v with
    | none => exact ⟨h, rfl, rfl⟩
    | some x =>
      have hx := (h.1.1.2.2.1.2 x).mp (latB_s e).1
      obtain ⟨A, B, hb, hn⟩ := bnd_at hV h.1.1 hx.1 hx.2
      obtain ⟨k0, k1, k2, ⟨B', k3, k4, G, k5, k6, k7⟩, k8, k9, k10, k11, k12, k13, k14⟩ := tLet_v hV h hb hn
      obtain ⟨q1, q2, q3⟩ := tWd_v (v := v) hV n (tIdle (tLet P 13 W x).1 x, (tLet P 13 W x).2) (IV_idle k0 (by rw [k13]; decide))
      refine ⟨q1, q2.trans k8, q3.trans ?_⟩
      show (tLet P 13 W x).2.length + (tLet P 13 W x).1.1.2.2.1.length = _
      rw [k4, hb, k5]
      simp
      omega
