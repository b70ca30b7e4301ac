-- QUESTIONS in the reference: device
def hst (kd : Nat) (a : Int32) (z : Nat × Nat) : Int32 := if z.1 = kd then (if kd = 0 then a + nI z.2 else a + (nI 1 <<< (nI z.2 &&& 31))) else a
def had0 (T : TT) (x : Nat) : Int32 := (T.2.2.2.1 x).foldl (hst 0) (nI 0)
theorem add_bit {a : Int32} {k : Nat} (hk : k < 32) (h : bt a k = false) : a + (nI 1 <<< (nI k &&& 31)) = a ||| (nI 1 <<< (nI k &&& 31)) := by
  have e : a &&& (nI 1 <<< (nI k &&& 31)) = 0 := by
    refine b_ext fun i hi => ?_
    rw [b_and, b_bit hk, b_0]
    by_cases e : i = k
    · subst e; rw [h]; rfl
    · rw [decide_eq_false e, Bool.and_false]
  apply Int32.toBitVec_inj.mp
  rw [Int32.toBitVec_add, Int32.toBitVec_or]
  refine BitVec.add_eq_or_of_and_eq_zero _ _ ?_
  rw [← Int32.toBitVec_and, e]
  rfl
theorem had_b {kd : Nat} (h0 : kd ≠ 0) : ∀ (l : List (Nat × Nat)) (a : Int32), l.Pairwise (fun a b => a.1 ≠ 0 → a ≠ b) → (∀ z ∈ l, z.1 = kd → z.2 < 32 ∧ bt a z.2 = false) → ∀ j, bt (l.foldl (hst kd) a) j = (bt a j || decide ((kd, j) ∈ l))
  | [], a, _, _, j => by simp
  | z :: l, a, hp, hz, j => by
    rw [List.pairwise_cons] at hp
    rw [List.foldl_cons]
    by_cases e : z.1 = kd
    · obtain ⟨hz1, hz2⟩ := hz z List.mem_cons_self e
      have e1 : hst kd a z = a ||| (nI 1 <<< (nI z.2 &&& 31)) := by
        unfold hst
        rw [if_pos e, if_neg h0, add_bit hz1 hz2]
      have ez : z = (kd, z.2) := by rw [← e]
      rw [e1, had_b h0 l _ hp.2 (fun w hw hwk => ?_) j, b_or, b_bit hz1]
      · by_cases ej : j = z.2
        · have : (kd, j) ∈ z :: l := by rw [ej, ← ez]; exact List.mem_cons_self
          simp [ej, this, ← ez]
        · have hm : ((kd, j) ∈ z :: l) ↔ ((kd, j) ∈ l) := by
            rw [List.mem_cons]
            exact ⟨fun q => q.elim (fun q => absurd (by rw [← q]) ej) id, Or.inr⟩
          simp only [decide_eq_false ej, Bool.or_false, hm]
      · have h1 := (hz w (List.mem_cons_of_mem _ hw) hwk)
        refine ⟨h1.1, ?_⟩
        rw [b_or, h1.2, b_bit hz1, Bool.false_or]
        refine decide_eq_false (fun q => ?_)
        refine hp.1 w hw (by rw [e]; exact h0) ?_
        rw [ez, ← q, ← hwk]
    · have e1 : hst kd a z = a := by unfold hst; rw [if_neg e]
      have hm : ((kd, j) ∈ z :: l) ↔ ((kd, j) ∈ l) := by
        rw [List.mem_cons]
        exact ⟨fun q => q.elim (fun q => absurd (by rw [← q]) e) id, Or.inr⟩
      rw [e1, had_b h0 l a hp.2 (fun w hw => hz w (List.mem_cons_of_mem _ hw)) j]
      simp only [hm]
section MASK2
variable {ρ : Nat × (Nat → Int32)} {d : Nat} {c : Nat × Nat} {R : Nat → Nat → Option Nat} {I : Nat → Nat → Int32} {L : Nat → Nat → Int64} {P : PT} {sd : Nat} {T : TT}
theorem M_hadOf_l (h : MX P sd T I) {x kd : Nat} (hx : x < 12) (hkd : kd < 4) (hz : ∀ z ∈ T.2.2.2.1 x, z.1 < 4) : ∀ (n k : Nat) (a : Int32), k + n = (T.2.2.2.1 x).length → EV ρ (d + 1) 83 5 [.ref 257, .int (nI x), .int (nI kd), .int a, .int (nI k), zU] [] (mk c R I L) = some ([.int (((T.2.2.2.1 x).drop k).foldl (hst kd) a)], mk c R I L) := by
  obtain ⟨h1, h2, h3⟩ := h.2.2.2.2.2.2.2.2 x hx
  intro n
  induction n with
  | zero =>
    intro k a hk
    rw [List.drop_eq_nil_of_le (by omega), bM_hadOf_5, nI_add, zidx_n (by omega) (by decide), h2, if_pos (nI_le (by omega) (by omega))]
    rfl
  | succ n ih =>
    intro k a hk
    have hk2 : k < (T.2.2.2.1 x).length := by omega
    have hg := h3 k _ (List.getElem?_eq_getElem hk2)
    have hz4 := hz _ (List.getElem_mem hk2)
    rw [List.drop_eq_getElem_cons hk2, List.foldl_cons, bM_hadOf_5, nI_add, zidx_n (by omega) (by decide), h2, if_neg (nI_ge hk2 (by omega)), pk_mul, nI_add, pk_mul, nI_add, zidx_n (by omega) (by decide), hg.1, nI_add k 1]
    unfold hst
    by_cases e : ((T.2.2.2.1 x)[k]).1 = kd
    · rw [if_pos (by rw [e]), if_pos e, nI_add, zidx_n (by omega) (by decide), hg.2]
      by_cases e0 : kd = 0
      · rw [if_pos ((nn1 (by omega)).mpr e0), if_pos e0]
        exact ih (k + 1) _ (by omega)
      · rw [if_neg (fun z => e0 ((nn1 (by omega)).mp z)), if_neg e0]
        exact ih (k + 1) _ (by omega)
    · rw [if_neg (by rw [nI_eq (by omega) (by omega)]; exact e), if_neg e]
      exact ih (k + 1) _ (by omega)
theorem tk_4 (hT : TV P T) (x : Nat) : ∀ z ∈ T.2.2.2.1 x, z.1 < 4 := fun z hz => by
  rcases hT.2.2.2.2.2.2.2.1 x z hz with h | ⟨h, -⟩ | ⟨h, -⟩ <;> omega
theorem M_had0 (h : MX P sd T I) (hT : TV P T) {x : Nat} (hx : x < 12) : EV ρ (d + 1) 83 0 [.ref 257, .int (nI x), .int (nI 0), zU, zU, zU] [] (mk c R I L) = some ([.int (had0 T x)], mk c R I L) := by
  rw [bM_hadOf_0]
  exact M_hadOf_l h hx (by decide) (tk_4 hT x) (T.2.2.2.1 x).length 0 (nI 0) (by omega)
def qln (T : TT) (x : Nat) : Int32 := bR 16 (fun j => decide (T.2.1.1.2 j = some x))
def qgv (T : TT) (x : Nat) : Int32 := bR 8 (fun j => decide (T.2.1.2.1 j = some x))
theorem M_had1 (h : MX P sd T I) (hT : IV P T) {x : Nat} (hx : x < 12) : EV ρ (d + 1) 83 0 [.ref 257, .int (nI x), .int (nI 1), zU, zU, zU] [] (mk c R I L) = some ([.int (qln T x)], mk c R I L) := by
  rw [bM_hadOf_0, M_hadOf_l h hx (by decide) (tk_4 hT.1.1 x) (T.2.2.2.1 x).length 0 (nI 0) (by omega), List.drop_zero]
  congr 4
  refine b_ext fun j hj => ?_
  have hok : ∀ z ∈ T.2.2.2.1 x, z.1 = 1 → z.2 < 16 := fun z hz e => by
    rcases hT.1.1.2.2.2.2.2.2.2.1 x z hz with h | ⟨h, h2⟩ | ⟨h, h2⟩
    · omega
    · exact h2
    · omega
  rw [had_b (kd := 1) (by decide) (T.2.2.2.1 x) (nI 0) (hT.2.2.2.1.2.2 x) (fun z hz e => ⟨by have := hok z hz e; omega, b_0 _⟩)]
  unfold qln
  rw [bt_R (by decide), show bt (nI 0) j = false from b_0 j, Bool.false_or, Bool.eq_iff_iff, decide_eq_true_eq, Bool.and_eq_true, decide_eq_true_eq, decide_eq_true_eq, hT.2.2.2.1.2.1 j x]
  exact ⟨fun z => ⟨hok _ z rfl, z⟩, fun z => z.2⟩
theorem M_had3 (h : MX P sd T I) (hT : IV P T) {x : Nat} (hx : x < 12) : EV ρ (d + 1) 83 0 [.ref 257, .int (nI x), .int (nI 3), zU, zU, zU] [] (mk c R I L) = some ([.int (qgv T x)], mk c R I L) := by
  rw [bM_hadOf_0, M_hadOf_l h hx (by decide) (tk_4 hT.1.1 x) (T.2.2.2.1 x).length 0 (nI 0) (by omega), List.drop_zero]
  congr 4
  refine b_ext fun j hj => ?_
  have hok : ∀ z ∈ T.2.2.2.1 x, z.1 = 3 → z.2 < 8 := fun z hz e => by
    rcases hT.1.1.2.2.2.2.2.2.2.1 x z hz with h | ⟨h, h2⟩ | ⟨h, h2⟩
    · omega
    · omega
    · exact h2
  rw [had_b (kd := 3) (by decide) (T.2.2.2.1 x) (nI 0) (hT.2.2.2.1.2.2 x) (fun z hz e => ⟨by have := hok z hz e; omega, b_0 _⟩)]
  unfold qgv
  rw [bt_R (by decide), show bt (nI 0) j = false from b_0 j, Bool.false_or, Bool.eq_iff_iff, decide_eq_true_eq, Bool.and_eq_true, decide_eq_true_eq, decide_eq_true_eq, hT.2.2.2.1.1 j x]
  exact ⟨fun z => ⟨hok _ z rfl, z⟩, fun z => z.2⟩
theorem ms_le {h m : Nat} (hh : h < 2 ^ 20) (hm : m < 2 ^ 20) : nI h ≤ nI m - nI 1 ↔ h + 1 ≤ m := by
  rw [Int32.le_iff_toInt_le, pk_sub_toInt (by omega) (by omega), nI_toInt (by omega)]
  omega
theorem M_highOf_l (hT : IV P T) : ∀ (n e : Nat) (x : Nat) (A B : List Nat), n ≤ e → T.1.2.2.1 = A ++ x :: B → A.length < n → n ≤ 13 → MX P sd T I → EV ρ (e + 4) 82 0 [.ref 257, .int (nI x), zU, zU] [] (mk c R I L) = some ([.int (nI (hgF P T n x))], mk c R I L)
  | 0, _, _, A, _, _, _, h, _, _ => by omega
  | n + 1, e, x, A, B, hne, hb, hn, hn13, h => by
    obtain ⟨e', rfl⟩ : ∃ e', e = e' + 1 := ⟨e - 1, by omega⟩
    have hV := h.1
    have h12 := hV.1
    have hx := (hT.1.1.2.2.1.2 x).mp (by rw [hb]; simp)
    have rec_ : ∀ o, hg P T o x = true → EV ρ (e' + 4) 82 0 [.ref 257, .int (nI o), zU, zU] [] (mk c R I L) = some ([.int (nI (hgF P T n o))], mk c R I L) := fun o ho => by
      obtain ⟨A1, A2, e2⟩ := low_b hV hT hb ho
      refine M_highOf_l hT n e' o A1 (A2 ++ x :: B) (by omega) (by rw [hb, e2]; simp) ?_ (by omega) h
      rw [e2] at hn
      simp at hn
      omega
    have loop : ∀ (j k m : Nat), k + j = P.1.1 → m ≤ n + 1 → EV ρ (e' + 1 + 4) 82 4 [.ref 257, .int (nI x), .int (nI m - nI 1), .int (nI k)] [] (mk c R I L) = some ([.int (nI (((List.range P.1.1).drop k).foldl (fun m o => if hg P T o x then max m (hgF P T n o + 1) else m) m))], mk c R I L) := by
      intro j
      induction j with
      | zero =>
        intro k m hk hm
        rw [rg_nil (by omega), bM_highOf_4, M_devices_e h.2.1, zci, bM_highOf_9, if_pos (nI_le (by omega) (by omega)), Int32.sub_add_cancel]
        rfl
      | succ j ih =>
        intro k m hk hm
        rw [rg_cons (by omega), List.foldl_cons, bM_highOf_4, M_devices_e h.2.1, zci, bM_highOf_9, if_neg (nI_ge (by omega) (by omega)), M_parentOf_e h.2.1 hV hx.1, zci, bM_highOf_18]
        have hle := hgF_le P T n k
        have yes : hg P T k x = true → zcI (EV ρ (e' + 4) 82 0 [.ref 257, .int (nI k), zU, zU] [] (mk c R I L)) (fun x2 s1 => EV ρ (e' + 1 + 4) 82 42 [.ref 257, .int (nI x), .int (nI m - nI 1), .int (nI k)] [.int x2] s1) = some ([.int (nI (((List.range P.1.1).drop (k + 1)).foldl (fun m o => if hg P T o x then max m (hgF P T n o + 1) else m) (if hg P T k x then max m (hgF P T n k + 1) else m)))], mk c R I L) := fun ho => by
          rw [rec_ k ho, zci, bM_highOf_42, if_pos ho, nI_add k 1]
          by_cases e3 : hgF P T n k + 1 ≤ m
          · rw [if_pos ((ms_le (by omega) (by omega)).mpr e3), Nat.max_eq_left e3]
            exact ih (k + 1) m (by omega) hm
          · rw [if_neg (fun z => e3 ((ms_le (by omega) (by omega)).mp z)), rec_ k ho, zci, bM_highOf_51, nI_add k 1, Nat.max_eq_right (by omega)]
            have := ih (k + 1) (hgF P T n k + 1) (by omega) (by omega)
            rw [pk_sub (by omega), Nat.add_sub_cancel] at this
            exact this
        by_cases ep : P.2.1 x = some k
        · rw [if_pos ((eO_i (pa_lt hV hx.1) (by omega)).mpr ep).symm]
          exact yes (by unfold hg; simp [ep])
        · rw [if_neg (fun z => ep ((eO_i (pa_lt hV hx.1) (by omega)).mp z.symm)), nI_add, zidx_n (by omega) (by decide), (h.2.2.2.1 x (by omega)).2.2.2.2, M_has_e _ (by omega), zci, bM_highOf_34]
          cases ec : bt (T.2.1.1.1 x) k with
          | true =>
            rw [if_neg (by decide)]
            exact yes (by unfold hg; simp [ec])
          | false =>
            have hno : hg P T k x = false := by unfold hg; simp [ep, ec]
            rw [if_pos (by decide), nI_add, hno, if_neg (by decide)]
            exact ih (k + 1) m (by omega) hm
    rw [bM_highOf_0]
    exact loop P.1.1 0 0 (by omega) (Nat.zero_le _)
end MASK2
