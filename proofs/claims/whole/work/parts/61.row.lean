-- ROWS, THE JOURNAL (component)
section ROW
variable {ρ : Nat × (Nat → Int32)} {d : Nat} {c : Nat × Nat} {R : Nat → Nat → Option Nat} {I : Nat → Nat → Int32} {L : Nat → Nat → Int64} {q : Nat}
theorem Row_clear_e (hq : isRw q) : EV ρ (d + 1) 108 0 [.ref q] [] (mk c R I L) = some ([], mk c R (z2 I q 1 (nI 0)) L) := by
  obtain ⟨h1, h2, h3, -⟩ := hq
  rw [bRow_clear_0, zob h1, bRow_clear_5]
theorem RowIs_nil (I : Nat → Nat → Int32) (q : Nat) : RowIs (z2 I q 1 (nI 0)) q [] := ⟨by simp [z2a], by simp, fun i v h => by simp at h⟩
theorem Row_append_e (hq : isRw q) {l : List Nat} (h : RowIs I q l) (hl : l.length < 12) (v : Int32) : EV ρ (d + 1) 109 0 [.ref q, .int v] [] (mk c R I L) = some ([], mk c R (z2 (z2 I (q + 1) l.length v) q 1 (nI (l.length + 1))) L) := by
  obtain ⟨h1, h2, h3, -⟩ := hq
  rw [bRow_append_0, zob h1, h.1, if_neg (nI_ge hl (by decide)), zob h1, zob h1, h2, zrs, zar h3, zidx_n hl (by decide), bRow_append_19, zob h1, zob h1, bRow_append_29]
  have e : z2 I (q + 1) l.length v q 1 = nI l.length := by rw [z2a, if_neg (by omega), h.1]
  rw [e, nI_add]
theorem RowIs_app {l : List Nat} (h : RowIs I q l) (hl : l.length < 12) (v : Nat) : RowIs (z2 (z2 I (q + 1) l.length (nI v)) q 1 (nI (l.length + 1))) q (l ++ [v]) := by
  refine ⟨by simp [z2a], by simp; omega, fun i w hi => ?_⟩
  rw [z2a, if_neg (by omega), z2a]
  rcases Nat.lt_trichotomy i l.length with h1 | h1 | h1
  · rw [if_neg (by omega)]
    rw [List.getElem?_append_left h1] at hi
    exact h.2.2 i w hi
  · subst h1
    simp at hi
    simp [hi]
  · rw [List.getElem?_eq_none (by simp; omega)] at hi
    cases hi
theorem RowIs_to {J : Nat → Nat → Int32} {l : List Nat} (h : RowIs I q l) (h1 : J q = I q) (h2 : J (q + 1) = I (q + 1)) : RowIs J q l := ⟨by rw [h1]; exact h.1, h.2.1, fun i v hi => by rw [h2]; exact h.2.2 i v hi⟩
theorem RowIs_Eo {J : Nat → Nat → Int32} {l m : List Nat} (h : RowIs I q l) (he : Eo m I J) (h1 : q ∉ m) (h2 : q + 1 ∉ m) : RowIs J q l := RowIs_to h (he _ h1) (he _ h2)
theorem Row_at_e (hq : isRw q) {l : List Nat} (h : RowIs I q l) (v : Int32) : EV ρ (d + 1) 111 0 [.ref q, .int v] [] (mk c R I L) = some ([.int (if v < 0 ∨ nI l.length ≤ v then -1 else eO l[v.toNatClampNeg]?)], mk c R I L) := by
  obtain ⟨h1, h2, h3, -⟩ := hq
  rw [bRow_at_0, zob h1, zob h1, h2, zrs, zar h3, h.1]
  by_cases h4 : v < 0
  · simp [h4]
  · by_cases h5 : nI l.length ≤ v
    · simp [h4, h5]
    · have h6 : ¬ (v < 0 ∨ nI l.length ≤ v) := by simp [h4, h5]
      rw [if_neg h4, if_neg h5, if_neg h6]
      obtain ⟨j, hj, rfl, -⟩ := pk_mu h4 h5 (by have := h.2.1; omega)
      rw [zidx_n (by have := h.2.1; omega) (by decide), nI_clamp (by have := h.2.1; omega)]
      rw [List.getElem?_eq_getElem hj, eO_s, h.2.2 j _ (List.getElem?_eq_getElem hj)]
theorem Row_placeOf_l (hq : isRw q) {l : List Nat} (h : RowIs I q l) (hs : ∀ x ∈ l, x < 2 ^ 31) {v : Nat} (hv : v < 2 ^ 31) : ∀ (n i : Nat), i + n = l.length → (∀ j, j < i → l[j]? ≠ some v) → EV ρ (d + 1) 112 2 [.ref q, .int (nI v), .int (nI i)] [] (mk c R I L) = some ([.int (eO (l.idxOf? v))], mk c R I L) := by
  obtain ⟨h1, h2, h3, -⟩ := hq
  have hl := h.2.1
  intro n
  induction n with
  | zero =>
    intro i hi hn
    have e : l.idxOf? v = none := by
      rw [List.idxOf?_eq_none_iff]
      intro hm
      obtain ⟨j, hj, e⟩ := List.getElem_of_mem hm
      exact hn j (by omega) (by rw [List.getElem?_eq_getElem hj, e])
    rw [bRow_placeOf_2, zob h1, h.1, if_pos (nI_le (by omega) (by omega)), e]; rfl
  | succ n ih =>
    intro i hi hn
    have hi2 : i < l.length := by omega
    have hx := h.2.2 i _ (List.getElem?_eq_getElem hi2)
    rw [bRow_placeOf_2, zob h1, h.1, if_neg (nI_ge hi2 (by omega)), zob h1, h2, zrs, zar h3, zidx_n (by omega) (by decide), hx, nI_add]
    by_cases e : l[i] = v
    · rw [if_pos (by rw [e])]
      have e2 : l.idxOf? v = some i := by
        rw [List.idxOf?, List.findIdx?_eq_some_iff_getElem]
        refine ⟨hi2, by simp [e], fun j hj => ?_⟩
        have := hn j hj
        rw [List.getElem?_eq_getElem (by omega)] at this
        simpa using this
      rw [e2]; rfl
    · rw [if_neg (by rw [nI_eq (hs _ (List.getElem_mem hi2)) hv]; exact e)]
      refine ih (i + 1) (by omega) (fun j hj => ?_)
      by_cases e3 : j = i
      · subst e3
        rw [List.getElem?_eq_getElem hi2]
        simpa using e
      · exact hn j (by omega)
theorem Row_placeOf_e (hq : isRw q) {l : List Nat} (h : RowIs I q l) (hs : ∀ x ∈ l, x < 2 ^ 31) {v : Nat} (hv : v < 2 ^ 31) : EV ρ (d + 1) 112 0 [.ref q, .int (nI v), zU] [] (mk c R I L) = some ([.int (eO (l.idxOf? v))], mk c R I L) := by
  rw [bRow_placeOf_0]
  exact Row_placeOf_l hq h hs hv l.length 0 (by omega) (fun j hj => by omega)
theorem Row_bits_l (hq : isRw q) {l : List Nat} (h : RowIs I q l) : ∀ (n i : Nat) (a : Int32), i + n = l.length → EV ρ (d + 1) 113 4 [.ref q, .int a, .int (nI i)] [] (mk c R I L) = some ([.int ((l.drop i).foldl (fun a k => a ||| (nI 1 <<< (nI k &&& 31))) a)], mk c R I L) := by
  obtain ⟨h1, h2, h3, -⟩ := hq
  have hl := h.2.1
  intro n
  induction n with
  | zero =>
    intro i a hi
    rw [bRow_bits_4, zob h1, h.1, if_pos (nI_le (by omega) (by omega)), List.drop_eq_nil_of_le (by omega)]; rfl
  | succ n ih =>
    intro i a hi
    have hi2 : i < l.length := by omega
    have hx := h.2.2 i _ (List.getElem?_eq_getElem hi2)
    rw [bRow_bits_4, zob h1, h.1, if_neg (nI_ge hi2 (by omega)), zob h1, h2, zrs, zar h3, zidx_n (by omega) (by decide), hx, nI_add, ih (i + 1) _ (by omega), List.drop_eq_getElem_cons hi2]
    rfl
theorem Row_bits_e (hq : isRw q) {l : List Nat} (h : RowIs I q l) : EV ρ (d + 1) 113 0 [.ref q, zU, zU] [] (mk c R I L) = some ([.int (bitsL l)], mk c R I L) := by
  rw [bRow_bits_0, Row_bits_l hq h l.length 0 _ (by omega)]
  rfl
theorem Row_drop_l (hq : isRw q) {l : List Nat} (hl : l.length ≤ 12) (hs : ∀ x ∈ l, x < 2 ^ 31) {v : Nat} (hv : v < 2 ^ 31) : ∀ (n i : Nat) (J : Nat → Nat → Int32), i + n = l.length → J q 1 = nI l.length → (∀ j w, ((l.take i).filter (· ≠ v))[j]? = some w → J (q + 1) j = nI w) → (∀ j w, i ≤ j → l[j]? = some w → J (q + 1) j = nI w) → Eo [q, q + 1] I J →
    ∃ K, EV ρ (d + 1) 110 4 [.ref q, .int (nI v), .int (nI ((l.take i).filter (· ≠ v)).length), .int (nI i)] [] (mk c R J L) = some ([], mk c R K L) ∧ RowIs K q (l.filter (· ≠ v)) ∧ Eo [q, q + 1] I K := by
  obtain ⟨h1, h2, h3, -⟩ := hq
  intro n
  induction n with
  | zero =>
    intro i J hi hJ hA hB hE
    refine ⟨_, by rw [bRow_drop_4, zob h1, hJ, if_pos (nI_le (by omega) (by omega)), zob h1, bRow_drop_48], ?_, hE.z2 (by simp)⟩
    rw [List.take_of_length_le (by omega)] at hA ⊢
    refine ⟨by simp [z2a], Nat.le_trans (List.length_filter_le _ _) hl, fun j w hj => ?_⟩
    rw [z2a, if_neg (by omega)]
    exact hA j w hj
  | succ n ih =>
    intro i J hi hJ hA hB hE
    have hi2 : i < l.length := by omega
    have hx := hB i _ (Nat.le_refl i) (List.getElem?_eq_getElem hi2)
    have ht : l.take (i + 1) = l.take i ++ [l[i]] := by rw [List.take_succ, List.getElem?_eq_getElem hi2]; rfl
    have hk : ((l.take i).filter (· ≠ v)).length ≤ i := by
      have := List.length_filter_le (· ≠ v) (l.take i)
      rw [List.length_take] at this
      omega
    rw [bRow_drop_4, zob h1, hJ, if_neg (nI_ge hi2 (by omega)), zob h1, h2, zrs, zar h3, zidx_n (by omega) (by decide), hx, nI_add]
    by_cases e : l[i] = v
    · have hf : (l.take (i + 1)).filter (· ≠ v) = (l.take i).filter (· ≠ v) := by rw [ht, List.filter_append]; simp [e]
      rw [if_pos (by rw [e]), ← hf]
      refine ih (i + 1) J (by omega) hJ (by rw [hf]; exact hA) (fun j w hj => hB j w (by omega)) hE
    · have hf : (l.take (i + 1)).filter (· ≠ v) = (l.take i).filter (· ≠ v) ++ [l[i]] := by rw [ht, List.filter_append]; simp [e]
      rw [if_neg (by rw [nI_eq (hs _ (List.getElem_mem hi2)) hv]; exact e), zob h1, zob h1, zrs, zar h3, zidx_n (by omega) (by decide), zrs, zar h3, zidx_n (by omega) (by decide), bRow_drop_34, nI_add, nI_add, hx]
      have hlen : ((l.take i).filter (· ≠ v)).length + 1 = ((l.take (i + 1)).filter (· ≠ v)).length := by rw [hf]; simp
      rw [hlen]
      refine ih (i + 1) _ (by omega) (by rw [z2a, if_neg (by omega)]; exact hJ) (fun j w hj => ?_) (fun j w hj hw => ?_) (hE.z2 (by simp))
      · rw [hf] at hj
        rw [z2a]
        rcases Nat.lt_trichotomy j ((l.take i).filter (· ≠ v)).length with g | g | g
        · rw [if_neg (by omega)]
          rw [List.getElem?_append_left g] at hj
          exact hA j w hj
        · subst g
          simp at hj
          simp [hj]
        · rw [List.getElem?_eq_none (by simp at g ⊢; omega)] at hj
          cases hj
      · rw [z2a, if_neg (by omega)]
        exact hB j w (by omega) hw
theorem Row_drop_e (hq : isRw q) {l : List Nat} (h : RowIs I q l) (hs : ∀ x ∈ l, x < 2 ^ 31) {v : Nat} (hv : v < 2 ^ 31) : ∃ K, EV ρ (d + 1) 110 0 [.ref q, .int (nI v), zU, zU] [] (mk c R I L) = some ([], mk c R K L) ∧ RowIs K q (l.filter (· ≠ v)) ∧ Eo [q, q + 1] I K := by
  rw [bRow_drop_0]
  exact Row_drop_l (ρ := ρ) (d := d) (c := c) (R := R) (L := L) hq h.2.1 hs hv l.length 0 I (by omega) h.1 (fun j w hj => by simp at hj) (fun j w _ hj => h.2.2 j w hj) Eo.rf
theorem Row_copyFrom_e {r : Nat} (hq : isRw q) (hr : isRw r) (hne : q ≠ r) (hn1 : q + 1 ≠ r) (hn2 : q ≠ r + 1) {l : List Nat} (h : RowIs I r l) : ∃ K, EV ρ (d + 1) 114 0 [.ref q, .ref r] [] (mk c R I L) = some ([], mk c R K L) ∧ RowIs K q l ∧ Eo [q, q + 1] I K := by
  obtain ⟨h1, h2, h3, h4, h5⟩ := hq
  obtain ⟨g1, g2, g3, g4, g5⟩ := hr
  rw [bRow_copyFrom_0, zob g1, zob h1, h2, zrs, g2, zrs, zob g4, zob h4, g5, h5, if_pos (by decide), bRow_copyFrom_15, zob g1, zob h1, bRow_copyFrom_23]
  refine ⟨_, rfl, ⟨?_, h.2.1, fun i v hi => ?_⟩, fun k hk => ?_⟩
  · rw [z2a, if_pos ⟨rfl, rfl⟩]
    unfold zcpy
    rw [va_up_ne _ _ (by omega)]
    exact h.1
  · rw [z2a, if_neg (by omega)]
    unfold zcpy
    rw [va_up_self]
    have hi2 : i < l.length := (List.getElem?_eq_some_iff.mp hi).1
    have := h.2.1
    rw [pk_cpy_in (by omega) (by omega)]
    simpa using h.2.2 i v hi
  · simp only [List.mem_cons, List.not_mem_nil, or_false, not_or] at hk
    rw [z2_ne hk.1]
    unfold zcpy
    rw [va_up_ne _ _ hk.2]
end ROW
