-- DRIVERS IN LINE (fb_holes: out of COUNTS.to-paste)
theorem fb_holes : ∀ (m n : Nat) (f : Nat → Nat), (∀ i, i < n → f i < m) → (∀ i j, i < j → j < n → f i ≠ f j) → n ≤ m := by
  intro m
  induction m with
  | zero =>
    intro n f h1 _
    rcases Nat.eq_zero_or_pos n with h | h
    · omega
    · exact absurd (h1 0 h) (Nat.not_lt_zero _)
  | succ m ih =>
    intro n f h1 h2
    by_cases hx : ∃ i, i < n ∧ f i = m
    · obtain ⟨a, ha, hfa⟩ := hx
      have hg := ih (n - 1) (fun i => if i < a then f i else f (i + 1)) (by
        intro i hi
        by_cases q : i < a
        · simp only [if_pos q]
          have b1 := h1 i (by omega)
          have b2 := h2 i a q ha
          omega
        · simp only [if_neg q]
          have b1 := h1 (i + 1) (by omega)
          have b2 := h2 a (i + 1) (by omega) (by omega)
          omega) (by
        intro i j hij hj
        by_cases q : i < a
        · by_cases r : j < a
          · simp only [if_pos q, if_pos r]
            exact h2 i j hij (by omega)
          · simp only [if_pos q, if_neg r]
            exact h2 i (j + 1) (by omega) (by omega)
        · have r : ¬ j < a := by omega
          simp only [if_neg q, if_neg r]
          exact h2 (i + 1) (j + 1) (by omega) (by omega))
      omega
    · have hg := ih n f (fun i hi => by
        have b1 := h1 i hi
        have b2 : f i ≠ m := fun e => hx ⟨i, hi, e⟩
        omega) h2
      omega
/-- two of them in one place -/
theorem nd_len {l : List Nat} {n : Nat} (h : l.Nodup) (hl : ∀ v ∈ l, v < n) : l.length ≤ n := by
  refine fb_holes n l.length (fun i => l.getD i 0) (fun i hi => ?_) (fun i j hij hj e => ?_)
  · show l.getD i 0 < n
    rw [List.getD_eq_getElem?_getD, List.getElem?_eq_getElem hi]
    exact hl _ (List.getElem_mem hi)
  · have e : l.getD i 0 = l.getD j 0 := e
    rw [List.getD_eq_getElem?_getD, List.getD_eq_getElem?_getD, List.getElem?_eq_getElem hj, List.getElem?_eq_getElem (by omega)] at e
    have := (List.getElem_inj (h₀ := by omega) (h₁ := hj) h).mp e
    omega
section LINE
variable {ρ : Nat × (Nat → Int32)} {d : Nat} {c : Nat × Nat} {R : Nat → Nat → Option Nat} {I : Nat → Nat → Int32} {L : Nat → Nat → Int64} {P : PT} {sd : Nat} {T : TT} {b p : Nat}
def lnL (P : PT) (T : TT) (x : Nat) : List Nat := (P.2.2.2.2.2 x).filter (fun v => bt T.2.2.1.2 v)
theorem lnL_lt (hV : PV P) {x : Nat} (hx : x < P.1.1) {v : Nat} (hv : v ∈ lnL P T x) : v < P.1.2.1 := ((hV.2.2.2.2.2.2.2 x hx).2 v).mp (List.mem_filter.mp hv).1 |>.1
theorem ahead_irr {P : PT} {x v : Nat} : ¬ ahead P x v v := by
  rintro ⟨a, b, h1, h2, h3⟩
  rw [h1] at h2
  cases h2
  omega
theorem ahead_asy {P : PT} {x v w : Nat} (h : ahead P x v w) : ¬ ahead P x w v := by
  rintro ⟨a, b, h1, h2, h3⟩
  obtain ⟨a2, b2, g1, g2, g3⟩ := h
  rw [h1] at g2
  rw [h2] at g1
  cases g1
  cases g2
  omega
theorem ah_nd {P : PT} {x : Nat} {l : List Nat} (h : l.Pairwise (ahead P x)) : l.Nodup := by
  refine List.Pairwise.imp (R := ahead P x) ?_ h
  intro a b hab e
  subst e
  exact ahead_irr hab
theorem lnL_pw (hV : PV P) {x : Nat} (hx : x < P.1.1) : (lnL P T x).Pairwise (ahead P x) := (hV.2.2.2.2.2.2.2 x hx).1.sublist List.filter_sublist
theorem lnL_nd (hV : PV P) {x : Nat} (hx : x < P.1.1) : (lnL P T x).Nodup := ah_nd (lnL_pw hV hx)
theorem Ben_isLoaded_e (hb : isB b) (hT : CR b T I) {v : Nat} (hv : v < 32) : EV ρ (d + 1) 160 0 [.ref b, .int (nI v)] [] (mk c R I L) = some ([.int (bo (bt T.2.2.1.2 v))], mk c R I L) := by
  rw [bBen_isLoaded_0, zob (xb_o hb), hT.2.2.1.2.2.2]
  by_cases h : bt T.2.2.1.2 v = true
  · rw [if_pos ((hs_b hv _).mpr h), h]; rfl
  · rw [if_neg (fun z => h ((hs_b hv _).mp z)), Bool.eq_false_iff.mpr h]; rfl
theorem rk_len (hV : PV P) {x : Nat} (hx : x < P.1.1) : (P.2.2.2.2.2 x).length ≤ 8 := nd_len (ah_nd (hV.2.2.2.2.2.2.2 x hx).1) (fun v hv => by
  have := (((hV.2.2.2.2.2.2.2 x hx).2 v).mp hv).1
  have := hV.2.1
  omega)
theorem Ben_inLine_l (h : CX P b p T R I) {x : Nat} (hx : x < P.1.1) : ∀ (n i l : Nat), i + n = (P.2.2.2.2.2 x).length → l < 2 ^ 31 → EV ρ (d + 2) 182 5 [.ref b, .int (nI x), zU, .int (nI l), .int (nI i), zU] [] (mk c R I L) = some ([.int (eO ((((P.2.2.2.2.2 x).drop i).filter (fun v => bt T.2.2.1.2 v))[l]?))], mk c R I L) := by
  obtain ⟨hb, hV, hR, hC, hT⟩ := h
  have h12 := hV.1
  have hl8 := rk_len hV hx
  have hX := hC.2.2.2.2.1 x hx
  intro n
  induction n with
  | zero =>
    intro i l hi hl
    rw [bBen_inLine_5, zob (xb_o hb), hR, zrs, zob (xp_o hC.1), xp_F19 hC.1, zrs, zar (xp_a37 hC.1), zidx_n (by omega) (by decide), hX.2.2.2.2.2.1, if_pos (nI_le (by omega) (by omega)), List.drop_eq_nil_of_le (by omega)]
    rfl
  | succ n ih =>
    intro i l hi hl
    have hi2 : i < (P.2.2.2.2.2 x).length := by omega
    have hv8 : (P.2.2.2.2.2 x)[i] < 8 := by
      have := (((hV.2.2.2.2.2.2.2 x hx).2 _).mp (List.getElem_mem hi2)).1
      have := hV.2.1
      omega
    rw [bBen_inLine_5, zob (xb_o hb), hR, zrs, zob (xp_o hC.1), xp_F19 hC.1, zrs, zar (xp_a37 hC.1), zidx_n (by omega) (by decide), hX.2.2.2.2.2.1, if_neg (nI_ge hi2 (by omega)), zob (xb_o hb), zrs, zob (xp_o hC.1), xp_F18 hC.1, zrs, zar (xp_a24 hC.1), zidx_n (by omega) (by decide), (xp_k hC.1 (show x < 12 by omega)).1, zrs, zar (xp_k hC.1 (show x < 12 by omega)).2, zidx_n (by omega) (by decide), zob (xb_o hb), hX.2.2.2.2.2.2 i _ (List.getElem?_eq_getElem hi2), Ben_isLoaded_e hb hT (by omega), zci, bBen_inLine_39, List.drop_eq_getElem_cons hi2, nI_add]
    cases hk : bt T.2.2.1.2 (P.2.2.2.2.2 x)[i] with
    | false => rw [if_pos (by decide), ih (i + 1) l (by omega) hl, List.filter_cons_of_neg (by simp [hk])]
    | true =>
      rw [if_neg (by decide), List.filter_cons_of_pos (by simp [hk])]
      cases l with
      | zero => rw [if_pos (by decide)]; rfl
      | succ l => rw [if_neg (nI_ne0 (by omega) hl), pk_m1, ih (i + 1) l (by omega) (by omega)]; rfl
theorem Ben_inLine_e (h : CX P b p T R I) {x : Nat} (hx : x < P.1.1) {l : Nat} (hl : l < 2 ^ 31) : EV ρ (d + 2) 182 0 [.ref b, .int (nI x), .int (nI l), zU, zU, zU] [] (mk c R I L) = some ([.int (eO ((lnL P T x)[l]?))], mk c R I L) := by
  rw [bBen_inLine_0, Ben_inLine_l h hx (P.2.2.2.2.2 x).length 0 l (by omega) hl]
  rfl
/-- those that may come next -/
def cdt (P : PT) (T : TT) (x : Nat) (k v : Nat) : Prop := v ∈ lnL P T x ∧ v ∉ (lnL P T x).take k
def bst (P : PT) (T : TT) (x k n : Nat) (o : Option Nat) : Prop := (∀ v, o = some v → v < n ∧ cdt P T x k v) ∧ ∀ v, v < n → cdt P T x k v → ∃ w, o = some w ∧ (v = w ∨ ahead P x w v)
theorem M_sc_e (h : MX P sd T I) {v x : Nat} (hv : v < P.1.2.1) (hx : x < P.1.1) : EV ρ (d + 4) 39 0 [.ref 257, .int (nI v), .int (nI x), zU, zU, zU, zU, zU] [] (mk c R I L) = some ([.int (eO (P.2.2.2.2.1 v x))], mk c R I L) := h.2.1.2.2.2.2.2.2.2 ρ d c R L I (fun _ _ => rfl) h.2.1.2.1 v x hv hx
theorem cdt_iff (hV : PV P) {x k v : Nat} (hx : x < P.1.1) (hv : v < P.1.2.1) : cdt P T x k v ↔ bt T.2.2.1.2 v = true ∧ ¬ bt (bitsL ((lnL P T x).take k)) v = true ∧ P.2.2.2.2.1 v x ≠ none := by
  unfold cdt
  have h8 := hV.2.1
  rw [bt_bits (fun u hu => by
    have := lnL_lt hV hx (List.mem_of_mem_take hu)
    omega)]
  unfold lnL
  rw [List.mem_filter, (hV.2.2.2.2.2.2.2 x hx).2 v, decide_eq_true_eq]
  constructor
  · rintro ⟨⟨⟨-, h1⟩, h2⟩, h3⟩
    exact ⟨h2, h3, h1⟩
  · rintro ⟨h1, h2, h3⟩
    exact ⟨⟨⟨hv, h3⟩, h1⟩, h2⟩
theorem M_inLine_i (h : MX P sd T I) {x : Nat} (hx : x < P.1.1) (k i : Nat) : ∀ (n v : Nat) (o : Option Nat), v + n = P.1.2.1 → bst P T x k v o → ∃ o', bst P T x k P.1.2.1 o' ∧ EV ρ (d + 5) 41 11 [.ref 257, .int (nI x), .int (nI i), .int (bitsL ((lnL P T x).take k)), .int (nI k), .int (eO o), .int (nI v)] [] (mk c R I L) = if eO o' < 0 then some ([.int (eO o')], mk c R I L) else (if nI k = nI i then some ([.int (eO o')], mk c R I L) else EV ρ (d + 5) 41 5 [.ref 257, .int (nI x), .int (nI i), .int (bitsL ((lnL P T x).take k) ||| (nI 1 <<< (eO o' &&& 31))), .int (nI k + nI 1), zU, zU] [] (mk c R I L)) := by
  have h' := h
  obtain ⟨hV, hP, hT⟩ := h
  have h8 := hV.2.1
  have hsc : ∀ u a, P.2.2.2.2.1 u x = some a → a ≤ 8 := fun u a hu => hV.2.2.2.2.2.2.1 u x a hu
  intro n
  induction n with
  | zero =>
    intro v o hv hb
    obtain rfl : v = P.1.2.1 := by omega
    refine ⟨o, hb, ?_⟩
    rw [bM_inLine_11, M_drivers_e hP, zci, bM_inLine_17, if_pos (nI_le (by omega) (by omega))]
  | succ n ih =>
    intro v o hv hb
    have hvn : v < P.1.2.1 := by omega
    have hskip : ¬ cdt P T x k v → bst P T x k (v + 1) o := fun hn => ⟨fun u hu => ⟨by have := (hb.1 u hu).1; omega, (hb.1 u hu).2⟩, fun u hu hc => by
      by_cases e : u = v
      · subst e; exact absurd hc hn
      · exact hb.2 u (by omega) hc⟩
    rw [bM_inLine_11, M_drivers_e hP, zci, bM_inLine_17, if_neg (nI_ge (by omega) (by omega)), M_isLoaded_e hT (by omega), zci, bM_inLine_26, nI_add v 1]
    cases h1 : bt T.2.2.1.2 v with
    | false =>
      rw [if_pos (by decide)]
      exact ih (v + 1) o (by omega) (hskip (fun z => by have := ((cdt_iff hV hx hvn).mp z).1; rw [h1] at this; cases this))
    | true =>
      rw [if_neg (by decide), M_has_e _ (by omega), zci, bM_inLine_35, nI_add v 1]
      cases h2 : bt (bitsL ((lnL P T x).take k)) v with
      | true =>
        rw [if_neg (by decide)]
        exact ih (v + 1) o (by omega) (hskip (fun z => ((cdt_iff hV hx hvn).mp z).2.1 h2))
      | false =>
        rw [if_pos (by decide), M_sc_e h' hvn hx, zci, bM_inLine_45, nI_add v 1]
        cases h3 : P.2.2.2.2.1 v x with
        | none =>
          rw [if_pos (by decide)]
          exact ih (v + 1) o (by omega) (hskip (fun z => ((cdt_iff hV hx hvn).mp z).2.2 h3))
        | some a =>
          have ha := hsc v a h3
          have hcv : cdt P T x k v := (cdt_iff hV hx hvn).mpr ⟨h1, by rw [h2]; decide, by rw [h3]; exact fun z => by cases z⟩
          rw [eO_s, if_neg (nI_pos (by omega))]
          cases o with
          | none =>
            rw [if_pos (by decide)]
            refine ih (v + 1) (some v) (by omega) ⟨fun u hu => ?_, fun u hu hc => ?_⟩
            · cases hu; exact ⟨by omega, hcv⟩
            · by_cases e : u = v
              · exact ⟨v, rfl, Or.inl e⟩
              · obtain ⟨w, hw, -⟩ := hb.2 u (by omega) hc
                cases hw
          | some w =>
            obtain ⟨hw1, hw2⟩ := hb.1 w rfl
            have hwn : w < P.1.2.1 := by omega
            obtain ⟨a2, ha2⟩ := Option.ne_none_iff_exists'.mp ((cdt_iff hV hx hwn).mp hw2).2.2
            have ha3 := hsc w a2 ha2
            rw [eO_s, if_neg (nI_pos (by omega)), M_sc_e h' hvn hx, zci, bM_inLine_60, M_sc_e h' hwn hx, zci, bM_inLine_67, h3, ha2, eO_s, eO_s, nI_add v 1]
            by_cases e : a ≤ a2
            · rw [if_pos (nI_le e (by omega))]
              refine ih (v + 1) (some w) (by omega) ⟨fun u hu => ⟨by have := (hb.1 u hu).1; omega, (hb.1 u hu).2⟩, fun u hu hc => ?_⟩
              by_cases e2 : u = v
              · subst e2
                exact ⟨w, rfl, Or.inr ⟨a2, a, ha2, h3, by omega⟩⟩
              · exact hb.2 u (by omega) hc
            · rw [if_neg (nI_ge (by omega) (by omega))]
              refine ih (v + 1) (some v) (by omega) ⟨fun u hu => ?_, fun u hu hc => ?_⟩
              · cases hu; exact ⟨by omega, hcv⟩
              · by_cases e2 : u = v
                · exact ⟨v, rfl, Or.inl e2⟩
                · refine ⟨v, rfl, Or.inr ?_⟩
                  obtain ⟨w2, hw3, hw4⟩ := hb.2 u (by omega) hc
                  cases hw3
                  rcases hw4 with rfl | ⟨a4, b4, g1, g2, g3⟩
                  · exact ⟨a, a2, h3, ha2, by omega⟩
                  · rw [ha2] at g1
                    cases g1
                    exact ⟨a, b4, h3, g2, by omega⟩
theorem bst_get (hV : PV P) {x k : Nat} (hx : x < P.1.1) {o : Option Nat} (h : bst P T x k P.1.2.1 o) : o = (lnL P T x)[k]? := by
  have hpw := lnL_pw (T := T) hV hx
  have hnd := lnL_nd (T := T) hV hx
  by_cases hk : k < (lnL P T x).length
  · have hc : cdt P T x k (lnL P T x)[k] := ⟨List.getElem_mem hk, fun z => by
      obtain ⟨j, hj, e⟩ := List.getElem_of_mem z
      rw [List.getElem_take] at e
      have hj2 : j < k := by simp at hj; omega
      have := (List.getElem_inj hnd).mp e
      omega⟩
    obtain ⟨w, rfl, hw⟩ := h.2 _ (lnL_lt hV hx (List.getElem_mem hk)) hc
    rw [List.getElem?_eq_getElem hk]
    rcases hw with hw | hw
    · rw [hw]
    · exfalso
      obtain ⟨-, h1, h2⟩ := h.1 w rfl
      obtain ⟨j, hj, rfl⟩ := List.getElem_of_mem h1
      have hjk : k ≤ j := by
        refine Classical.byContradiction fun z => h2 ?_
        exact List.mem_take_iff_getElem.mpr ⟨j, by omega, rfl⟩
      by_cases e : j = k
      · subst e; exact ahead_irr hw
      · exact ahead_asy hw (List.pairwise_iff_getElem.mp hpw k j hk hj (by omega))
  · rw [List.getElem?_eq_none (by omega)]
    cases o with
    | none => rfl
    | some w =>
      obtain ⟨-, h1, h2⟩ := h.1 w rfl
      rw [List.take_of_length_le (by omega)] at h2
      exact absurd h1 h2
theorem bits_snoc (l : List Nat) (v : Nat) : bitsL l ||| (nI 1 <<< (nI v &&& 31)) = bitsL (l ++ [v]) := by
  unfold bitsL
  rw [List.foldl_append]
  rfl
theorem M_inLine_o (h : MX P sd T I) {x : Nat} (hx : x < P.1.1) {i : Nat} (hi : i < 2 ^ 30) : ∀ (n k : Nat), k + n = i → EV ρ (d + 5) 41 5 [.ref 257, .int (nI x), .int (nI i), .int (bitsL ((lnL P T x).take k)), .int (nI k), zU, zU] [] (mk c R I L) = some ([.int (eO ((lnL P T x)[i]?))], mk c R I L) := by
  intro n
  have hV := h.1
  have h8 := hV.2.1
  induction n with
  | zero =>
    intro k hk
    obtain rfl : k = i := by omega
    rw [bM_inLine_5]
    obtain ⟨o, h1, h2⟩ := M_inLine_i (ρ := ρ) (d := d) (c := c) (R := R) (L := L) h hx k k P.1.2.1 0 none (by omega) ⟨fun v hv => (by cases hv), fun v hv => by omega⟩
    rw [eO_n] at h2
    rw [h2, bst_get hV hx h1]
    simp
  | succ n ih =>
    intro k hk
    rw [bM_inLine_5]
    obtain ⟨o, h1, h2⟩ := M_inLine_i (ρ := ρ) (d := d) (c := c) (R := R) (L := L) h hx k i P.1.2.1 0 none (by omega) ⟨fun v hv => (by cases hv), fun v hv => by omega⟩
    rw [eO_n] at h2
    rw [h2, bst_get hV hx h1]
    by_cases hkl : k < (lnL P T x).length
    · have hv := lnL_lt hV hx (List.getElem_mem hkl)
      rw [List.getElem?_eq_getElem hkl, eO_s, if_neg (nI_pos (by omega)), if_neg (by rw [nI_eq (by omega) (by omega)]; omega), bits_snoc, nI_add]
      have e : (lnL P T x).take k ++ [(lnL P T x)[k]] = (lnL P T x).take (k + 1) := by rw [List.take_succ, List.getElem?_eq_getElem hkl]; rfl
      rw [e]
      exact ih (k + 1) (by omega)
    · rw [List.getElem?_eq_none (by omega), List.getElem?_eq_none (by omega)]
      rfl
theorem M_inLine_e (h : MX P sd T I) {x : Nat} (hx : x < P.1.1) {i : Nat} (hi : i < 2 ^ 30) : EV ρ (d + 5) 41 0 [.ref 257, .int (nI x), .int (nI i), zU, zU, zU, zU] [] (mk c R I L) = some ([.int (eO ((lnL P T x)[i]?))], mk c R I L) := by
  rw [bM_inLine_0]
  exact M_inLine_o h hx hi i 0 (by omega)
end LINE
