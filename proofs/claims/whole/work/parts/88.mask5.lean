-- QUESTIONS in the reference: what would be, in which order, links
theorem MR_ext {T : TT} {s t : Nat → Int32} (h : MR T s) (hb : ∀ y ∈ T.1.2.2.1, y < 12) (ht : ∀ k, k < 443 → t k = s k) : MR T t := by
  obtain ⟨h1, h2, ⟨h3, h4, h5, h6⟩, h7, h8, h9, h10⟩ := h
  refine ⟨fun y hy => ?_, fun y hy => ?_, ⟨fun j hj => ?_, fun j hj => ?_, ?_, ?_⟩, RowM_to h7 (fun k g1 g2 => ht k (by omega)) (ht _ (by omega)), LogM_to h8 (fun k g1 g2 => ht k (by omega)) (ht _ (by omega)), StM_72 hb h9 (fun k g1 g2 => ht k (by omega)) (ht _ (by omega)), fun y hy => TkM_to (h10 y hy) hy (fun k g1 g2 => ht k (by omega))⟩
  · rw [ht _ (by omega), ht _ (by omega)]; exact h1 y hy
  · rw [ht _ (by omega), ht _ (by omega), ht _ (by omega), ht _ (by omega), ht _ (by omega)]; exact h2 y hy
  · rw [ht _ (by omega)]; exact h3 j hj
  · rw [ht _ (by omega)]; exact h4 j hj
  · rw [ht _ (by omega)]; exact h5
  · rw [ht _ (by omega)]; exact h6
/-- those that would be let go with x, in order -/
def gnL (P : PT) (T : TT) (x : Nat) : List Nat := if T.1.1.1.1 x = 3 then (tLet P 13 (T, []) x).2 else []
noncomputable def wouT (P : PT) (T : TT) (x : Nat) : TT := tSettle P 13 T.2.2.2.2 (tTry P T x)
noncomputable def pWou (P : PT) (T : TT) (v w : Int32) : Int32 := if (inN v P.1.1 = true ∧ opn T v.toNatClampNeg = true) ∧ inN w 3 = true then (if w = nI 0 then nI ((wouT P T v.toNatClampNeg).1.1.1.1 v.toNatClampNeg) else if w = nI 1 then (if (wouT P T v.toNatClampNeg).1.1.1.1 v.toNatClampNeg = 3 then nI ((wouT P T v.toNatClampNeg).1.1.1.2 v.toNatClampNeg) else -1) else nI ((wouT P T v.toNatClampNeg).2.2.2.2 - T.2.2.2.2)) else -1
def pOrd (P : PT) (T : TT) (v w : Int32) : Int32 := if inN v P.1.1 = true ∧ inN w (gnL P T v.toNatClampNeg).length = true then eO ((gnL P T v.toNatClampNeg)[w.toNatClampNeg]?) else -1
noncomputable def qLnk (P : PT) (T : TT) (x : Nat) (w : Int32) : Int32 := if w = nI 0 then T.2.1.1.1 x else if w = nI 1 then bR P.1.1 (fun o => bt (T.2.1.1.1 o) x) else if w = nI 2 then T.1.2.2.2 x else if w = nI 3 then bR P.1.1 (fun o => bt (T.1.2.2.2 o) x) else if w = nI 4 then abv P T x else if w = nI 5 then bitsL (gnL P T x) else if w = nI 6 then wts P T x else -1
noncomputable def pLnk (P : PT) (T : TT) (v w : Int32) : Int32 := if inN v P.1.1 = true then qLnk P T v.toNatClampNeg w else -1
section MASK5
variable {ρ : Nat × (Nat → Int32)} {d : Nat} {c : Nat × Nat} {R : Nat → Nat → Option Nat} {I : Nat → Nat → Int32} {L : Nat → Nat → Int64} {P : PT} {sd : Nat} {T : TT}
theorem M_keeps_l : ∀ (n k : Nat) (J : Nat → Nat → Int32), k + n = 443 → (∀ q, q ≠ 275 → J q = I q) → (∀ j, j < k → J 275 j = I 274 j) → ∃ K, EV ρ (d + 1) 87 2 [.ref 257, .int (nI k)] [] (mk c R J L) = some ([], mk c R K L) ∧ (∀ q, q ≠ 275 → K q = I q) ∧ ∀ j, j < 443 → K 275 j = I 274 j := by
  intro n
  induction n with
  | zero =>
    intro k J hk h1 h2
    obtain rfl : k = 443 := by omega
    exact ⟨J, by rw [bM_keeps_2, if_pos (nI_le (by omega) (by omega))], h1, h2⟩
  | succ n ih =>
    intro k J hk h1 h2
    rw [bM_keeps_2, if_neg (nI_ge (by omega) (by omega)), zidx_n (by omega) (by decide), zidx_n (by omega) (by decide), bM_keeps_21, nI_add]
    refine ih (k + 1) _ (by omega) (fun q hq => by rw [z2_ne hq]; exact h1 q hq) (fun j hj => ?_)
    rw [z2a]
    by_cases e : j = k
    · rw [if_pos ⟨rfl, e⟩, h1 274 (by decide), e]
    · rw [if_neg (fun z => e z.2)]
      exact h2 j (by omega)
theorem M_comesBack_l : ∀ (n k : Nat) (J : Nat → Nat → Int32), k + n = 443 → (∀ q, q ≠ 274 → J q = I q) → (∀ j, j < k → J 274 j = I 275 j) → ∃ K, EV ρ (d + 1) 88 2 [.ref 257, .int (nI k)] [] (mk c R J L) = some ([], mk c R K L) ∧ (∀ q, q ≠ 274 → K q = I q) ∧ ∀ j, j < 443 → K 274 j = I 275 j := by
  intro n
  induction n with
  | zero =>
    intro k J hk h1 h2
    obtain rfl : k = 443 := by omega
    exact ⟨J, by rw [bM_comesBack_2, if_pos (nI_le (by omega) (by omega))], h1, h2⟩
  | succ n ih =>
    intro k J hk h1 h2
    rw [bM_comesBack_2, if_neg (nI_ge (by omega) (by omega)), zidx_n (by omega) (by decide), zidx_n (by omega) (by decide), bM_comesBack_21, nI_add]
    refine ih (k + 1) _ (by omega) (fun q hq => by rw [z2_ne hq]; exact h1 q hq) (fun j hj => ?_)
    rw [z2a]
    by_cases e : j = k
    · rw [if_pos ⟨rfl, e⟩, h1 275 (by decide), e]
    · rw [if_neg (fun z => e z.2)]
      exact h2 j (by omega)
theorem M_keeps_e (h : MX P sd T I) : ∃ K, EV ρ (d + 1) 87 0 [.ref 257, zU] [] (mk c R I L) = some ([], mk c R K L) ∧ (∀ q, q ≠ 275 → K q = I q) ∧ (∀ j, j < 443 → K 275 j = I 274 j) ∧ MX P sd T K := by
  rw [bM_keeps_0]
  obtain ⟨K, h1, h2, h3⟩ := M_keeps_l (ρ := ρ) (d := d) (c := c) (R := R) (I := I) (L := L) 443 0 I (by omega) (fun _ _ => rfl) (fun j hj => by omega)
  refine ⟨K, h1, h2, h3, h.1, PM_to h.2.1 (fun q hq => h2 q ?_) (by rw [h2 257 (by decide)]), by rw [h2 274 (by decide)]; exact h.2.2⟩
  have : ∀ q, q ∈ bdM → q ≠ 275 := by decide
  exact this q hq
/-- what was kept comes back -/
theorem M_back (h : MX P sd T I) (hT : TV P T) {J : Nat → Nat → Int32} (hk : ∀ j, j < 443 → J 275 j = I 274 j) (hF : ∀ q j, ¬ (q = 274 ∨ q = 275 ∨ q = 276 ∨ q = 277 ∨ (q = 257 ∧ (j = 30 ∨ j = 31 ∨ j = 33))) → J q j = I q j) : ∃ K, EV ρ (d + 1) 88 0 [.ref 257, zU] [] (mk c R J L) = some ([], mk c R K L) ∧ MX P sd T K ∧ FT I K ∧ (∀ q, q ≠ 274 → K q = J q) := by
  rw [bM_comesBack_0]
  obtain ⟨K, h1, h2, h3⟩ := M_comesBack_l (ρ := ρ) (d := d) (c := c) (R := R) (I := J) (L := L) 443 0 J (by omega) (fun _ _ => rfl) (fun j hj => by omega)
  have hFT : FT I K := fun q j hq => by rw [h2 q (by omega)]; exact hF q j (by omega)
  refine ⟨K, h1, ⟨h.1, PM_to h.2.1 (fun q hq => ?_) (hFT 257 18 (by omega)), MR_ext h.2.2 (hT.bnd h.1) (fun k hk2 => by rw [h3 k hk2]; exact hk k hk2)⟩, hFT, h2⟩
  have : ∀ q, q ∈ bdM → q ≠ 274 ∧ q ≠ 275 ∧ q ≠ 276 ∧ q ≠ 277 ∧ q ≠ 278 ∧ q ≠ 279 ∧ q ≠ 257 := by decide
  obtain ⟨g1, g2, g3, g4, g5, g6, g7⟩ := this q hq
  funext j
  refine hFT q j ?_
  rintro (e | e | e | e | e | e | ⟨e, -⟩)
  · exact g1 e
  · exact g2 e
  · exact g3 e
  · exact g4 e
  · exact g5 e
  · exact g6 e
  · exact g7 e
theorem M_laysGone_e (h : MX P sd T I) (hT : IV P T) (hc : T.2.2.2.2 < 2 ^ 31) {x : Nat} (hx : x < P.1.1) : ∃ J, EV ρ (d + 28) 89 0 [.ref 257, .int (nI x)] [] (mk c R I L) = some ([.int (nI (gnL P T x).length)], mk c R J L) ∧ MX P sd T J ∧ GM J (gnL P T x) ∧ FT I J := by
  have hV := h.1
  have h12 := hV.1
  have hs := hT.1.1.1 x
  have h1 := MX_z2 (j := 33) (v := nI 0) h (by decide)
  rw [bM_laysGone_0, bM_laysGone_5, nI_add, Nat.zero_add, zidx_n (by omega) (by decide), (h1.2.2.1 x (by omega)).1]
  unfold gnL
  by_cases e3 : T.1.1.1.1 x = 3
  · rw [if_pos (by rw [e3]), if_pos e3]
    obtain ⟨K, k1, k2, k3, k4⟩ := M_keeps_e (ρ := ρ) (d := d + 26) (c := c) (R := R) (L := L) h1
    have hG : GM K [] := ⟨by rw [k2 257 (by decide), z2a, if_pos ⟨rfl, rfl⟩]; rfl, Nat.zero_le _, fun i v hi => by cases hi⟩
    obtain ⟨J, g1, g2, g3, g4⟩ := M_letsGo_e (ρ := ρ) (d := d + 9) (c := c) (R := R) (L := L) k4 hT hc hx e3 hG
    obtain ⟨B, b1, b2, b3, b4⟩ := M_back (ρ := ρ) (d := d + 26) (c := c) (R := R) (L := L) h1 hT.1.1 (J := J) (fun j hj => by rw [g4 275 j (by omega)]; exact k3 j hj) (fun q j hq => by rw [g4 q j (by omega), k2 q (by omega)])
    rw [k1, zcv, bM_laysGone_23, g1, zcv, bM_laysGone_28, b1, zcv, bM_laysGone_32, b4 257 (by decide), g3.1]
    exact ⟨B, rfl, b2, ⟨by rw [b4 257 (by decide)]; exact g3.1, g3.2.1, fun i v hi => by rw [b4 277 (by decide)]; exact g3.2.2 i v hi⟩, (FT.rf.z2 (by omega)).tr b3⟩
  · rw [if_neg (by rw [nI_eq (by omega) (by decide)]; exact e3), if_neg e3]
    exact ⟨_, rfl, h1, GM_0, FT.rf.z2 (by omega)⟩
theorem M_goneSet_l {g : List Nat} (hg : GM I g) : ∀ (n k : Nat), k + n = g.length → EV ρ (d + 29) 90 11 [.ref 257, zU, .int (nI g.length), .int (bitsL (g.take k)), .int (nI k)] [] (mk c R I L) = some ([.int (bitsL g)], mk c R I L) := by
  have h12 := hg.2.1
  intro n
  induction n with
  | zero =>
    intro k hk
    rw [bM_goneSet_11, if_pos (nI_le (by omega) (by omega)), List.take_of_length_le (by omega)]
  | succ n ih =>
    intro k hk
    have hk2 : k < g.length := by omega
    rw [bM_goneSet_11, if_neg (nI_ge hk2 (by omega)), zidx_n (by omega) (by decide), hg.2.2 k _ (List.getElem?_eq_getElem hk2), bits_snoc, nI_add]
    have e : g.take k ++ [g[k]] = g.take (k + 1) := by rw [List.take_succ, List.getElem?_eq_getElem hk2]; rfl
    rw [e]
    exact ih (k + 1) (by omega)
theorem M_consumers_l (h : MX P sd T I) {x : Nat} (hx : x < 12) : ∀ (n k : Nat), k + n = P.1.1 → EV ρ (d + 2) 85 4 [.ref 257, .int (nI x), .int (bR k (fun o => bt (T.2.1.1.1 o) x)), .int (nI k)] [] (mk c R I L) = some ([.int (bR P.1.1 (fun o => bt (T.2.1.1.1 o) x))], mk c R I L) := by
  have h12 := h.1.1
  intro n
  induction n with
  | zero =>
    intro k hk
    obtain rfl : k = P.1.1 := by omega
    rw [bM_consumers_4, M_devices_e h.2.1, zci, bM_consumers_9, if_pos (nI_le (by omega) (by omega))]
  | succ n ih =>
    intro k hk
    have := ih (k + 1) (by omega)
    rw [bR_s] at this
    rw [bM_consumers_4, M_devices_e h.2.1, zci, bM_consumers_9, if_neg (nI_ge (by omega) (by omega)), nI_add, zidx_n (by omega) (by decide), (h.2.2.2.1 k (by omega)).2.2.2.2, M_has_e _ (by omega), zci, bM_consumers_25, nI_add]
    cases e : bt (T.2.1.1.1 k) x with
    | true =>
      rw [e, if_pos rfl] at this
      rw [if_neg (by decide)]
      exact this
    | false =>
      rw [e, if_neg (by decide)] at this
      rw [if_pos (by decide)]
      exact this
theorem M_linked_l (h : MX P sd T I) {x : Nat} (hx : x < 12) : ∀ (n k : Nat), k + n = P.1.1 → EV ρ (d + 2) 86 4 [.ref 257, .int (nI x), .int (bR k (fun o => bt (T.1.2.2.2 o) x)), .int (nI k)] [] (mk c R I L) = some ([.int (bR P.1.1 (fun o => bt (T.1.2.2.2 o) x))], mk c R I L) := by
  have h12 := h.1.1
  intro n
  induction n with
  | zero =>
    intro k hk
    obtain rfl : k = P.1.1 := by omega
    rw [bM_linked_4, M_devices_e h.2.1, zci, bM_linked_9, if_pos (nI_le (by omega) (by omega))]
  | succ n ih =>
    intro k hk
    have := ih (k + 1) (by omega)
    rw [bR_s] at this
    rw [bM_linked_4, M_devices_e h.2.1, zci, bM_linked_9, if_neg (nI_ge (by omega) (by omega)), nI_add, zidx_n (by omega) (by decide), (h.2.2.2.1 k (by omega)).2.2.2.1, M_has_e _ (by omega), zci, bM_linked_25, nI_add]
    cases e : bt (T.1.2.2.2 k) x with
    | true =>
      rw [e, if_pos rfl] at this
      rw [if_neg (by decide)]
      exact this
    | false =>
      rw [e, if_neg (by decide)] at this
      rw [if_pos (by decide)]
      exact this
theorem M_consumers_e (h : MX P sd T I) {x : Nat} (hx : x < 12) : EV ρ (d + 2) 85 0 [.ref 257, .int (nI x), zU, zU] [] (mk c R I L) = some ([.int (bR P.1.1 (fun o => bt (T.2.1.1.1 o) x))], mk c R I L) := by
  rw [bM_consumers_0]
  exact M_consumers_l h hx P.1.1 0 (by omega)
theorem M_linked_e (h : MX P sd T I) {x : Nat} (hx : x < 12) : EV ρ (d + 2) 86 0 [.ref 257, .int (nI x), zU, zU] [] (mk c R I L) = some ([.int (bR P.1.1 (fun o => bt (T.1.2.2.2 o) x))], mk c R I L) := by
  rw [bM_linked_0]
  exact M_linked_l h hx P.1.1 0 (by omega)
theorem M_links_e (h : MX P sd T I) (hT : IV P T) (hc : T.2.2.2.2 < 2 ^ 31) (v w : Int32) : ∃ J, EV ρ (d + 30) 91 0 [.ref 257, .int v, .int w] [] (mk c R I L) = some ([.int (pLnk P T v w)], mk c R J L) ∧ MX P sd T J ∧ FT I J := by
  have hV := h.1
  have h12 := hV.1
  have h1 := MX_z2 (j := 2) (v := nI 0) h (by decide)
  have hF1 : FT I (z2 I 257 2 (nI 0)) := FT.rf.z2 (Or.inl rfl)
  rw [bM_links_0, bM_links_5, M_isDevice_e h1.2.1 h12, zci, bM_links_10]
  unfold pLnk
  by_cases hi : inN v P.1.1 = true
  · obtain ⟨x, hx, rfl⟩ := (inN_iff (by omega)).mp hi
    obtain ⟨q3, q4, q5, q6, q7⟩ := h1.2.2.2.1 x (by omega)
    rw [nI_clamp (by omega), hi, if_neg (by decide), if_pos rfl]
    unfold qLnk
    by_cases k0 : w = nI 0
    · rw [if_pos k0, if_pos k0, nI_add, zidx_n (by omega) (by decide), q7]
      exact ⟨_, rfl, h1, hF1⟩
    rw [if_neg k0, if_neg k0]
    by_cases k1 : w = nI 1
    · rw [if_pos k1, if_pos k1, M_consumers_e h1 (by omega), zci, bM_links_75]
      exact ⟨_, rfl, h1, hF1⟩
    rw [if_neg k1, if_neg k1]
    by_cases k2 : w = nI 2
    · rw [if_pos k2, if_pos k2, nI_add, zidx_n (by omega) (by decide), q6]
      exact ⟨_, rfl, h1, hF1⟩
    rw [if_neg k2, if_neg k2]
    by_cases k3 : w = nI 3
    · rw [if_pos k3, if_pos k3, M_linked_e h1 (by omega), zci, bM_links_91]
      exact ⟨_, rfl, h1, hF1⟩
    rw [if_neg k3, if_neg k3]
    by_cases k4 : w = nI 4
    · rw [if_pos k4, if_pos k4, M_above_e h1 (hT.1.1.ovB hV) hx, zci, bM_links_97]
      exact ⟨_, rfl, h1, hF1⟩
    rw [if_neg k4, if_neg k4]
    by_cases k5 : w = nI 5
    · obtain ⟨J, g1, g2, g3, g4⟩ := M_laysGone_e (ρ := ρ) (d := d) (c := c) (R := R) (L := L) h1 hT hc hx
      have e := M_goneSet_l (ρ := ρ) (d := d) (c := c) (R := R) (L := L) g3 (gnL P T x).length 0 (by omega)
      rw [List.take_zero] at e
      rw [if_pos k5, if_pos k5, bM_goneSet_0, g1, zci, bM_goneSet_5, show nI 0 = bitsL [] from rfl]
      have e' : EV ρ (d + 29) 90 11 [.ref 257, zU, .int (nI (gnL P T x).length), .int (nI 0), .int (nI 0)] [] (mk c R J L) = some ([.int (bitsL (gnL P T x))], mk c R J L) := e
      rw [show bitsL [] = nI 0 from rfl, e', zci, bM_links_103]
      exact ⟨J, rfl, g2, hF1.tr g4⟩
    rw [if_neg k5, if_neg k5]
    by_cases k6 : w = nI 6
    · rw [if_pos k6, if_pos k6, M_waitsFor_e h1 hT.1.1 hx, zci, bM_links_109]
      exact ⟨_, rfl, h1, hF1⟩
    rw [if_neg k6, if_neg k6]
    exact ⟨_, rfl, h1, hF1⟩
  · rw [Bool.eq_false_iff.mpr hi, if_pos (by decide), if_neg (by decide)]
    exact ⟨_, rfl, h1, hF1⟩
theorem M_order_e (h : MX P sd T I) (hT : IV P T) (hc : T.2.2.2.2 < 2 ^ 31) (v w : Int32) : ∃ J, EV ρ (d + 30) 96 0 [.ref 257, .int v, .int w, zU] [] (mk c R I L) = some ([.int (pOrd P T v w)], mk c R J L) ∧ MX P sd T J ∧ FT I J := by
  have hV := h.1
  have h12 := hV.1
  have h1 := MX_z2 (j := 2) (v := nI 0) h (by decide)
  have hF1 : FT I (z2 I 257 2 (nI 0)) := FT.rf.z2 (Or.inl rfl)
  rw [bM_order_0, bM_order_5, M_isDevice_e h1.2.1 h12, zci, bM_order_10]
  unfold pOrd
  by_cases hi : inN v P.1.1 = true
  · obtain ⟨x, hx, rfl⟩ := (inN_iff (by omega)).mp hi
    obtain ⟨J, g1, g2, g3, g4⟩ := M_laysGone_e (ρ := ρ) (d := d + 1) (c := c) (R := R) (L := L) h1 hT hc hx
    have hl := g3.2.1
    rw [nI_clamp (by omega), hi, if_neg (by decide), g1, zci, bM_order_20, M_within_e, zci, bM_order_29, wi_in w (by omega)]
    by_cases hj : inN w (gnL P T x).length = true
    · obtain ⟨y, hy, rfl⟩ := (inN_iff (by omega)).mp hj
      rw [hj, if_neg (by decide), if_pos ⟨rfl, rfl⟩, nI_clamp (by omega), zidx_n (by omega) (by decide), g3.2.2 y _ (List.getElem?_eq_getElem hy), List.getElem?_eq_getElem hy]
      exact ⟨J, rfl, g2, hF1.tr g4⟩
    · rw [Bool.eq_false_iff.mpr hj, if_pos (by decide), if_neg (fun z => by cases z.2)]
      exact ⟨J, rfl, g2, hF1.tr g4⟩
  · rw [Bool.eq_false_iff.mpr hi, if_pos (by decide), if_neg (fun z => by cases z.1)]
    exact ⟨_, rfl, h1, hF1⟩
theorem M_would_e (h : MX P sd T I) (hT : IV P T) (hc : T.2.2.2.2 + 24 < 2 ^ 30) (v w : Int32) : ∃ J, EV ρ (d + 30) 95 0 [.ref 257, .int v, .int w, zU] [] (mk c R I L) = some ([.int (pWou P T v w)], mk c R J L) ∧ MX P sd T J ∧ FT I J := by
  have hV := h.1
  have h12 := hV.1
  have h1 := MX_z2 (j := 2) (v := nI 0) h (by decide)
  have hF1 : FT I (z2 I 257 2 (nI 0)) := FT.rf.z2 (Or.inl rfl)
  rw [bM_would_0, bM_would_5, M_isDevice_e h1.2.1 h12, zci, bM_would_10]
  unfold pWou
  by_cases hi : inN v P.1.1 = true
  · obtain ⟨x, hx, rfl⟩ := (inN_iff (by omega)).mp hi
    rw [nI_clamp (by omega), hi, if_neg (by decide), M_isOpen_e h1.2.2 (by omega) (hT.1.1.1 x), zci, bM_would_18]
    cases eo : opn T x with
    | false =>
      rw [if_pos (by decide), if_neg (fun z => by cases z.1.2)]
      exact ⟨_, rfl, h1, hF1⟩
    | true =>
      rw [if_neg (by decide), M_within_e, zci, bM_would_27, wi_inS w (n := 3) rfl (by decide)]
      by_cases hj : inN w 3 = true
      · obtain ⟨K, k1, k2, k3, k4⟩ := M_keeps_e (ρ := ρ) (d := d + 28) (c := c) (R := R) (L := L) h1
        have h2 := MX_z2 (j := 31) (v := nI 0) k4 (by decide)
        have h3 := opn_3 eo
        obtain ⟨J, g1, g2, g3, g4⟩ := M_tries_e (ρ := ρ) (d := d + 19) (c := c) (R := R) (L := L) h2 hT.1 hx h3
        obtain ⟨f1, f2⟩ := tTry_f hV hT.1 hx h3
        have hbn := g4.at (c0 := T.2.2.2.2) (by rw [z2a, if_pos ⟨rfl, rfl⟩, Nat.sub_self]) (Nat.le_refl _) f2.2.2.1
        have hcc := cn_lt hV hT.1.1 f1.1 f2 hc
        obtain ⟨E, e1, e2, e3, e4⟩ := M_ends_e (ρ := ρ) (d := d + 18) (c := c) (R := R) (L := L) g2 f1 (c0 := T.2.2.2.2) f2.2.2.1 (by omega) hbn
        obtain ⟨B, b1, b2, b3, b4⟩ := M_back (ρ := ρ) (d := d + 28) (c := c) (R := R) (L := L) h1 hT.1.1 (J := E) (fun j hj => by rw [e3 275 j (by omega), g3 275 j (by omega), z2_ne (by decide)]; exact k3 j hj) (fun q j hq => by
          rw [e3 q j (by omega), g3 q j (by omega), z2a, if_neg (by omega), k2 q (by omega)])
        obtain ⟨w1, w2⟩ := e2.2.2.1 x (by omega)
        rw [hj, if_neg (by decide), k1, zcv, bM_would_36, bM_would_41, g1, zcv, bM_would_46, e1, zcv, bM_would_51, if_pos (show (true = true ∧ true = true) ∧ true = true from ⟨⟨rfl, rfl⟩, rfl⟩)]
        refine ⟨B, ?_, b2, hF1.tr b3⟩
        by_cases k0 : w = nI 0
        · rw [if_pos k0, if_pos (show w = 0 from k0), nI_add, Nat.zero_add, zidx_n (by omega) (by decide), b1, zcv, bM_would_92, w1]
          rfl
        · rw [if_neg k0, if_neg (show ¬ w = 0 from k0)]
          by_cases k1 : w = nI 1
          · rw [if_pos k1, if_pos k1, nI_add, zidx_n (by omega) (by decide), b1, zcv, bM_would_92, w2]
            rfl
          · rw [if_neg k1, if_neg k1, b1, zcv, bM_would_92, e4]
            rfl
      · rw [Bool.eq_false_iff.mpr hj, if_pos (by decide), if_neg (fun z => by cases z.2)]
        exact ⟨_, rfl, h1, hF1⟩
  · rw [Bool.eq_false_iff.mpr hi, if_pos (by decide), if_neg (fun z => by cases z.1.1)]
    exact ⟨_, rfl, h1, hF1⟩
end MASK5
