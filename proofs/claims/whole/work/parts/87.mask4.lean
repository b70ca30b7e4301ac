-- QUESTIONS in the reference: device, driver, score, line, supply, taken, count, log
def qDev (P : PT) (T : TT) (x : Nat) (w : Int32) : Int32 := if w = nI 0 then nI (T.1.1.1.1 x) else if w = nI 1 then (if T.1.1.1.1 x = 3 then nI (T.1.1.1.2 x) else -1) else if w = nI 2 then eO (P.2.1 x) else if w = nI 3 then T.1.1.2.1 x else if w = nI 4 then T.1.1.2.2 x else if w = nI 5 then eO (T.1.2.1.2.idxOf? x) else if w = nI 6 then bo (T.1.2.1.1 x) else if w = nI 7 then (if T.1.1.1.1 x = 3 then nI (hgF P T 13 x) else -1) else if w = nI 8 then had0 T x else if w = nI 9 then qln T x else if w = nI 10 then qgv T x else if w = nI 11 then lks P T x else -2
def pDev (P : PT) (T : TT) (v w : Int32) : Int32 := if inN v P.1.1 = true then qDev P T v.toNatClampNeg w else -2
def qDrv (P : PT) (T : TT) (np : Nat → Nat) (v : Nat) (w : Int32) : Int32 := if w = nI 0 then bo (bt T.2.2.1.2 v) else if w = nI 1 then nI (P.2.2.2.1 v).length else if w = nI 2 then nI (np v) else if w = nI 3 then nI (its T v).length else -1
def pDrv (P : PT) (T : TT) (np : Nat → Nat) (v w : Int32) : Int32 := if inN v P.1.2.1 = true then qDrv P T np v.toNatClampNeg w else -1
def pSco (P : PT) (v w : Int32) : Int32 := if inN v P.1.2.1 = true ∧ inN w P.1.1 = true then eO (P.2.2.2.2.1 v.toNatClampNeg w.toNatClampNeg) else -1
def pLin (P : PT) (T : TT) (v w : Int32) : Int32 := if inN v P.1.1 = true ∧ ¬ w < 0 then eO ((lnL P T v.toNatClampNeg)[w.toNatClampNeg]?) else -1
def qSup (P : PT) (T : TT) (s : Nat) (w : Int32) : Int32 := if w = nI 0 then eO (T.2.1.2.1 s) else if w = nI 1 then bR P.1.1 (fun x => decide (s ∈ P.2.2.1 x)) else if w = nI 2 then bR P.1.2.1 (fun v => decide (s ∈ ofk 3 (P.2.2.2.1 v))) else -2
def pSup (P : PT) (T : TT) (v w : Int32) : Int32 := if inN v P.1.2.2 = true then qSup P T v.toNatClampNeg w else -2
def pTak (T : TT) (v : Int32) : Int32 := if inN v 16 = true then eO (T.2.1.1.2 v.toNatClampNeg) else -2
def pLog (T : TT) (v w : Int32) : Option Int32 := if inN v T.2.1.2.2.length = true ∧ inN w 3 = true then (match T.2.1.2.2[v.toNatClampNeg]? with
    | none => none
    | some e => some (if w = nI 0 then e.1 else if w = nI 1 then e.2.1 else e.2.2)) else none
def lkN (T : TT) (n : Nat) : Nat := ((List.range n).map (fun x => cb (T.1.2.2.2 x) 12)).sum
def pCnt (P : PT) (T : TT) (tp w : Int32) : Int32 := if w = nI 0 then nI P.1.1 else if w = nI 1 then nI P.1.2.1 else if w = nI 2 then nI P.1.2.2 else if w = nI 3 then T.2.2.1.1 else if w = nI 4 then bR P.1.1 (fun x => decide (T.1.1.1.1 x = 3)) else if w = nI 5 then nI T.1.2.1.2.length else if w = nI 6 then T.2.2.1.2 else if w = nI 7 then nI (lkN T P.1.1) else if w = nI 8 then bR P.1.1 T.1.2.1.1 else if w = nI 9 then nI T.2.1.2.2.length else if w = nI 10 then tp else -1
theorem cb_len {S : Int32} : ∀ (n : Nat) (l : List Nat), l.Nodup → (∀ y ∈ l, y < n) → (∀ j, j < n → (bt S j = true ↔ j ∈ l)) → cb S n = l.length
  | 0, l, _, h, _ => by
    cases l with
    | nil => rfl
    | cons a l => have := h a List.mem_cons_self; omega
  | n + 1, l, hn, h, hb => by
    unfold cb
    by_cases e : n ∈ l
    · obtain ⟨A, B, e2⟩ := List.append_of_mem e
      have ef : l.filter (· ≠ n) = A ++ B := by rw [e2]; exact fl_mid (by rw [← e2]; exact hn)
      have hm : ∀ j, j ∈ A ++ B ↔ j ∈ l ∧ j ≠ n := fun j => by rw [← ef, List.mem_filter]; simp
      rw [cb_len n (A ++ B) (by rw [← ef]; exact hn.sublist List.filter_sublist) (fun y hy => by have := (hm y).mp hy; have := h y this.1; omega) (fun j hj => by
        rw [hb j (by omega), hm j]
        exact ⟨fun z => ⟨z, by omega⟩, fun z => z.1⟩), if_pos ((hb n (by omega)).mpr e), e2]
      simp
      omega
    · rw [cb_len n l hn (fun y hy => by
        have := h y hy
        have : y ≠ n := fun z => e (z ▸ hy)
        omega) (fun j hj => hb j (by omega)), if_neg (fun z => e ((hb n (by omega)).mp z))]
      rfl
section MASK4
variable {ρ : Nat × (Nat → Int32)} {d : Nat} {c : Nat × Nat} {R : Nat → Nat → Option Nat} {I : Nat → Nat → Int32} {L : Nat → Nat → Int64} {P : PT} {sd : Nat} {T : TT}
theorem M_high_e (h : MX P sd T I) (hT : IV P T) {x : Nat} (hx : x < P.1.1) (h3 : T.1.1.1.1 x = 3) : EV ρ (d + 29) 82 0 [.ref 257, .int (nI x), zU, zU] [] (mk c R I L) = some ([.int (nI (hgF P T 13 x))], mk c R I L) := by
  obtain ⟨A, B, e⟩ := List.append_of_mem ((hT.1.1.2.2.1.2 x).mpr ⟨hx, h3⟩)
  refine M_highOf_l hT 13 (d + 25) x A B (by omega) e ?_ (Nat.le_refl _) h
  have := bnd_12 h.1 hT.1.1
  rw [e] at this
  simp at this
  omega

theorem M_device_e (h : MX P sd T I) (hT : IV P T) (v w : Int32) : EV ρ (d + 30) 84 0 [.ref 257, .int v, .int w, zU] [] (mk c R I L) = some ([.int (pDev P T v w)], mk c R (z2 I 257 2 (nI 0)) L) := by
  have hV := h.1
  have h12 := hV.1
  have h1 := MX_z2 (j := 2) (v := nI 0) h (by decide)
  rw [bM_device_0, bM_device_5, M_isDevice_e h1.2.1 h12, zci, bM_device_10]
  unfold pDev
  by_cases hi : inN v P.1.1 = true
  · obtain ⟨x, hx, rfl⟩ := (inN_iff (by omega)).mp hi
    have hs := hT.1.1.1 x
    obtain ⟨q1, q2⟩ := h1.2.2.1 x (by omega)
    obtain ⟨q3, q4, q5, q6, q7⟩ := h1.2.2.2.1 x (by omega)
    rw [nI_clamp (by omega), hi, if_neg (by decide), if_pos rfl, nI_add, Nat.zero_add, zidx_n (by omega) (by decide), q1]
    have key : (if nI (T.1.1.1.1 x) = nI 3 then EV ρ (d + 30) 84 33 [.ref 257, .int (nI x), .int w, zU] [.int (nI 1)] (mk c R (z2 I 257 2 (nI 0)) L) else EV ρ (d + 30) 84 33 [.ref 257, .int (nI x), .int w, zU] [.int (nI 0)] (mk c R (z2 I 257 2 (nI 0)) L)) = EV ρ (d + 30) 84 33 [.ref 257, .int (nI x), .int w, zU] [.int (bo (decide (T.1.1.1.1 x = 3)))] (mk c R (z2 I 257 2 (nI 0)) L) := by
      by_cases e3 : T.1.1.1.1 x = 3
      · rw [if_pos (by rw [e3]), decide_eq_true e3]; rfl
      · rw [if_neg (by rw [nI_eq (by omega) (by decide)]; exact e3), decide_eq_false e3]; rfl
    rw [key, bM_device_33]
    unfold qDev
    by_cases k0 : w = nI 0
    · rw [if_pos k0, if_pos k0]
      rw [nI_add 0 x, Nat.zero_add, zidx_n (by omega) (by decide), q1]
    rw [if_neg k0, if_neg k0]
    by_cases k1 : w = nI 1
    · rw [if_pos k1, if_pos k1]
      by_cases e3 : T.1.1.1.1 x = 3
      · rw [decide_eq_true e3, if_neg (by decide), if_pos e3, nI_add, zidx_n (by omega) (by decide), bM_device_122, q2, if_pos e3]
      · rw [decide_eq_false e3, if_pos (by decide), if_neg e3, bM_device_122]
    rw [if_neg k1, if_neg k1]
    by_cases k2 : w = nI 2
    · rw [if_pos k2, if_pos k2]
      rw [M_parentOf_e h1.2.1 hV hx, zci, bM_device_128]
    rw [if_neg k2, if_neg k2]
    by_cases k3 : w = nI 3
    · rw [if_pos k3, if_pos k3]
      rw [nI_add, zidx_n (by omega) (by decide), q3]
    rw [if_neg k3, if_neg k3]
    by_cases k4 : w = nI 4
    · rw [if_pos k4, if_pos k4]
      rw [nI_add, zidx_n (by omega) (by decide), q4]
    rw [if_neg k4, if_neg k4]
    by_cases k5 : w = nI 5
    · rw [if_pos k5, if_pos k5]
      rw [M_inRow_e h1.2.2.2.2.2.1 (fun y hy => by have := hT.1.1.2.1.2 y hy; omega) (by omega), zci, bM_device_154]
    rw [if_neg k5, if_neg k5]
    by_cases k6 : w = nI 6
    · rw [if_pos k6, if_pos k6]
      rw [nI_add, zidx_n (by omega) (by decide), q5]
    rw [if_neg k6, if_neg k6]
    by_cases k7 : w = nI 7
    · rw [if_pos k7, if_pos k7]
      by_cases e3 : T.1.1.1.1 x = 3
      · rw [decide_eq_true e3, if_neg (by decide), if_pos e3, M_high_e h1 hT hx e3, zci, bM_device_174, bM_device_178]
      · rw [decide_eq_false e3, if_pos (by decide), if_neg e3, bM_device_178]
    rw [if_neg k7, if_neg k7]
    by_cases k8 : w = nI 8
    · rw [if_pos k8, if_pos k8]
      rw [M_had0 h1 hT.1.1 (by omega), zci, bM_device_185]
    rw [if_neg k8, if_neg k8]
    by_cases k9 : w = nI 9
    · rw [if_pos k9, if_pos k9]
      rw [M_had1 h1 hT (by omega), zci, bM_device_192]
    rw [if_neg k9, if_neg k9]
    by_cases k10 : w = nI 10
    · rw [if_pos k10, if_pos k10]
      rw [M_had3 h1 hT (by omega), zci, bM_device_199]
    rw [if_neg k10, if_neg k10]
    by_cases k11 : w = nI 11
    · rw [if_pos k11, if_pos k11]
      rw [M_lacksOf_e h1 hT.1.1 hx, zci, bM_device_205]
    rw [if_neg k11, if_neg k11]
  · rw [Bool.eq_false_iff.mpr hi, if_pos (by decide), if_neg (by decide)]
theorem M_driver_e (h : MX P sd T I) (hT : IV P T) {np : Nat → Nat} (hp : ∀ v, v < P.1.2.1 → I 267 (8 * sd + v) = nI (np v)) (v w : Int32) : EV ρ (d + 30) 92 0 [.ref 257, .int v, .int w] [] (mk c R I L) = some ([.int (pDrv P T np v w)], mk c R (z2 I 257 2 (nI 0)) L) := by
  have hV := h.1
  have h12 := hV.1
  have h8 := hV.2.1
  have hsd := h.2.1.1
  have h1 := MX_z2 (j := 2) (v := nI 0) h (by decide)
  rw [bM_driver_0, bM_driver_5, M_isDriver_e h1.2.1 h8, zci, bM_driver_10]
  unfold pDrv
  by_cases hi : inN v P.1.2.1 = true
  · obtain ⟨x, hx, rfl⟩ := (inN_iff (by omega)).mp hi
    rw [nI_clamp (by omega), hi, if_neg (by decide), if_pos rfl]
    unfold qDrv
    by_cases k0 : w = nI 0
    · rw [if_pos k0, if_pos k0, M_isLoaded_e h1.2.2 (by omega), zci, bM_driver_53]
      cases bt T.2.2.1.2 x <;> rfl
    rw [if_neg k0, if_neg k0]
    by_cases k1 : w = nI 1
    · rw [if_pos k1, if_pos k1, M_drv_e h1.2.1, zci, bM_driver_71, zidx_n (by omega) (by decide), (h1.2.1.2.2.2.2.2.2.1 x hx).1]
    rw [if_neg k1, if_neg k1]
    by_cases k2 : w = nI 2
    · rw [if_pos k2, if_pos k2, M_drv_e h1.2.1, zci, bM_driver_82, zidx_n (by omega) (by decide), z2_ne (by decide), hp x hx]
    rw [if_neg k2, if_neg k2]
    by_cases k3 : w = nI 3
    · obtain ⟨S, s1, s2⟩ := M_boundTo_e (ρ := ρ) (d := d + 27) (c := c) (R := R) (L := L) h1 hT.1 hx
      rw [if_pos k3, if_pos k3, s1, zci, bM_driver_89, M_count_e _ (by omega), zci, bM_driver_94]
      rw [cb_len 12 (its T x) (hT.1.1.2.2.1.1.sublist List.filter_sublist) (fun y hy => hT.1.1.bnd hV y (List.mem_filter.mp hy).1) (fun j _ => ?_)]
      rw [s2 j]
      unfold its
      rw [List.mem_filter, hT.1.1.2.2.1.2 j, decide_eq_true_eq]
      exact ⟨fun z => ⟨⟨z.1, z.2.1⟩, z.2.2⟩, fun z => ⟨z.1.1, z.1.2, z.2⟩⟩
    rw [if_neg k3, if_neg k3]
  · rw [Bool.eq_false_iff.mpr hi, if_pos (by decide), if_neg (by decide)]
theorem M_score_e (h : MX P sd T I) (v w : Int32) : EV ρ (d + 30) 93 0 [.ref 257, .int v, .int w] [] (mk c R I L) = some ([.int (pSco P v w)], mk c R (z2 I 257 2 (nI 0)) L) := by
  have hV := h.1
  have h12 := hV.1
  have h8 := hV.2.1
  have h1 := MX_z2 (j := 2) (v := nI 0) h (by decide)
  rw [bM_score_0, bM_score_5, M_isDriver_e h1.2.1 h8, zci, bM_score_10]
  unfold pSco
  by_cases hi : inN v P.1.2.1 = true
  · obtain ⟨x, hx, rfl⟩ := (inN_iff (by omega)).mp hi
    rw [hi, if_neg (by decide), M_isDevice_e h1.2.1 h12, zci, bM_score_18]
    by_cases hj : inN w P.1.1 = true
    · obtain ⟨y, hy, rfl⟩ := (inN_iff (by omega)).mp hj
      rw [hj, if_neg (by decide), M_sc_e h1 hx hy, zci, bM_score_27, if_pos ⟨rfl, rfl⟩, nI_clamp (by omega), nI_clamp (by omega)]
    · rw [Bool.eq_false_iff.mpr hj, if_pos (by decide), if_neg (fun z => by cases z.2)]
  · rw [Bool.eq_false_iff.mpr hi, if_pos (by decide), if_neg (fun z => by cases z.1)]
theorem wi_inS (v : Int32) {m n : Nat} (h : m + 1 = n) (hn : n < 2 ^ 30) : decide (¬ v < nI 0 ∧ ¬ nI m < v) = inN v n := by
  rw [← wi_in v hn, ← h, pk_sub (by omega), Nat.add_sub_cancel]
theorem M_line_e (h : MX P sd T I) (v w : Int32) : EV ρ (d + 30) 94 0 [.ref 257, .int v, .int w] [] (mk c R I L) = some ([.int (pLin P T v w)], mk c R (z2 I 257 2 (nI 0)) L) := by
  have hV := h.1
  have h12 := hV.1
  have h1 := MX_z2 (j := 2) (v := nI 0) h (by decide)
  rw [bM_line_0, bM_line_5, M_isDevice_e h1.2.1 h12, zci, bM_line_10]
  unfold pLin
  by_cases hi : inN v P.1.1 = true
  · obtain ⟨x, hx, rfl⟩ := (inN_iff (by omega)).mp hi
    have hl8 : (lnL P T x).length ≤ 8 := Nat.le_trans (List.length_filter_le _ _) (rk_len hV hx)
    rw [nI_clamp (by omega), hi, if_neg (by decide), M_within_e, zci, bM_line_20, wi_inS w (n := 8) rfl (by decide)]
    by_cases hj : inN w 8 = true
    · obtain ⟨y, hy, rfl⟩ := (inN_iff (by omega)).mp hj
      rw [hj, if_neg (by decide), M_inLine_e h1 hx (by omega), zci, bM_line_29, if_pos ⟨rfl, nI_pos (by omega)⟩, nI_clamp (by omega)]
    · rw [Bool.eq_false_iff.mpr hj, if_pos (by decide)]
      by_cases hw : w < 0
      · rw [if_neg (fun z => z.2 hw)]
      · obtain ⟨y, hy, rfl⟩ := nI_of hw
        have : 8 ≤ y := Classical.byContradiction fun z => hj (inN_n (by omega) (by decide))
        rw [if_pos ⟨rfl, hw⟩, nI_clamp hy, List.getElem?_eq_none (by omega)]; rfl
  · rw [Bool.eq_false_iff.mpr hi, if_pos (by decide), if_neg (fun z => by cases z.1)]
theorem M_taken_e (h : MX P sd T I) (v : Int32) : EV ρ (d + 30) 103 0 [.ref 257, .int v] [] (mk c R I L) = some ([.int (pTak T v)], mk c R (z2 I 257 2 (nI 0)) L) := by
  have h1 := MX_z2 (j := 2) (v := nI 0) h (by decide)
  rw [bM_taken_0, bM_taken_5, M_within_e, zci, bM_taken_12, wi_inS v (n := 16) rfl (by decide)]
  unfold pTak
  by_cases hi : inN v 16 = true
  · obtain ⟨x, hx, rfl⟩ := (inN_iff (by omega)).mp hi
    rw [nI_clamp (by omega), hi, if_neg (by decide), if_pos rfl, nI_add, zidx_n (by omega) (by decide), h1.2.2.2.2.1.1 x hx]
  · rw [Bool.eq_false_iff.mpr hi, if_pos (by decide), if_neg (by decide)]
theorem M_supply_n (h : MX P sd T I) {s : Nat} (hs : s < 8) : ∀ (n x : Nat), x + n = P.1.1 → EV ρ (d + 30) 102 66 [.ref 257, .int (nI s), zU, .int (bR x (fun x => decide (s ∈ P.2.2.1 x))), .int (nI x), zU] [] (mk c R I L) = some ([.int (bR P.1.1 (fun x => decide (s ∈ P.2.2.1 x)))], mk c R I L) := by
  have hV := h.1
  have h12 := hV.1
  have hsd := h.2.1.1
  intro n
  induction n with
  | zero =>
    intro x hx
    obtain rfl : x = P.1.1 := by omega
    rw [bM_supply_66, M_devices_e h.2.1, zci, bM_supply_72, if_pos (nI_le (by omega) (by omega))]
  | succ n ih =>
    intro x hx
    have hxn : x < P.1.1 := by omega
    have h3 := (hV.2.2.2.2.1 x hxn).1
    rw [bM_supply_66, M_devices_e h.2.1, zci, bM_supply_72, if_neg (nI_ge (by omega) (by omega))]
    have inner : ∀ (m k : Nat) (S : Int32), k + m = (P.2.2.1 x).length → S = (if s ∈ (P.2.2.1 x).take k then bR x (fun x => decide (s ∈ P.2.2.1 x)) ||| (nI 1 <<< (nI x &&& 31)) else bR x (fun x => decide (s ∈ P.2.2.1 x))) → EV ρ (d + 30) 102 78 [.ref 257, .int (nI s), zU, .int S, .int (nI x), .int (nI k)] [] (mk c R I L) = EV ρ (d + 30) 102 66 [.ref 257, .int (nI s), zU, .int (bR (x + 1) (fun x => decide (s ∈ P.2.2.1 x))), .int (nI (x + 1)), zU] [] (mk c R I L) := by
      intro m
      induction m with
      | zero =>
        intro k S hk hS
        rw [List.take_of_length_le (by omega)] at hS
        have e : S = bR (x + 1) (fun x => decide (s ∈ P.2.2.1 x)) := by
          rw [hS, bR_s]
          by_cases e : s ∈ P.2.2.1 x
          · rw [if_pos e, if_pos (decide_eq_true e)]
          · rw [if_neg e, if_neg (by simpa using e)]
        rw [bM_supply_78, M_dev_e h.2.1, zci, bM_supply_90, zidx_n (by omega) (by decide), (h.2.1.2.2.2.2.2.1 x hxn).2.1, if_pos (nI_le (by omega) (by omega)), nI_add, e]
      | succ m ihm =>
        intro k S hk hS
        have hk2 : k < (P.2.2.1 x).length := by omega
        have hz8 := ne_lt hV hxn _ (List.getElem_mem hk2)
        have et : (P.2.2.1 x).take (k + 1) = (P.2.2.1 x).take k ++ [(P.2.2.1 x)[k]] := by rw [List.take_succ, List.getElem?_eq_getElem hk2]; rfl
        rw [bM_supply_78, M_dev_e h.2.1, zci, bM_supply_90, zidx_n (by omega) (by decide), (h.2.1.2.2.2.2.2.1 x hxn).2.1, if_neg (nI_ge hk2 (by omega)), M_dev_e h.2.1, zci, bM_supply_105, pk_mul, nI_add, zidx_n (by omega) (by decide), PM_ne h.2.1 hxn (List.getElem?_eq_getElem hk2), nI_add k 1]
        by_cases e : (P.2.2.1 x)[k] = s
        · rw [if_pos (by rw [e])]
          refine ihm (k + 1) _ (by omega) ?_
          have hm : s ∈ (P.2.2.1 x).take (k + 1) := by rw [et, e]; simp
          rw [if_pos hm, hS]
          split
          · refine b_ext fun i _ => ?_
            simp only [b_or]
            cases bt (nI 1 <<< (nI x &&& 31)) i <;> simp
          · rfl
        · rw [if_neg (by rw [nI_eq (by omega) (by omega)]; exact e)]
          refine ihm (k + 1) _ (by omega) ?_
          rw [hS]
          have hm : s ∈ (P.2.2.1 x).take (k + 1) ↔ s ∈ (P.2.2.1 x).take k := by
            rw [et, List.mem_append, List.mem_singleton]
            exact ⟨fun z => z.elim id (fun q => absurd q.symm e), Or.inl⟩
          by_cases g : s ∈ (P.2.2.1 x).take k
          · rw [if_pos g, if_pos (hm.mpr g)]
          · rw [if_neg g, if_neg (fun z => g (hm.mp z))]
    rw [inner (P.2.2.1 x).length 0 _ (by omega) (by rw [if_neg (by simp)])]
    exact ih (x + 1) (by omega)
theorem M_supply_v (h : MX P sd T I) {s : Nat} (hs : s < 8) : ∀ (n v : Nat), v + n = P.1.2.1 → EV ρ (d + 30) 102 138 [.ref 257, .int (nI s), zU, .int (bR v (fun v => decide (s ∈ ofk 3 (P.2.2.2.1 v)))), .int (nI v), zU] [] (mk c R I L) = some ([.int (bR P.1.2.1 (fun v => decide (s ∈ ofk 3 (P.2.2.2.1 v))))], mk c R I L) := by
  have hV := h.1
  have h8 := hV.2.1
  intro n
  induction n with
  | zero =>
    intro v hv
    obtain rfl : v = P.1.2.1 := by omega
    rw [bM_supply_138, M_drivers_e h.2.1, zci, bM_supply_144, if_pos (nI_le (by omega) (by omega))]
  | succ n ih =>
    intro v hv
    have hvn : v < P.1.2.1 := by omega
    have hb : bt (bitsL (ofk 3 (P.2.2.2.1 v))) s = decide (s ∈ ofk 3 (P.2.2.2.1 v)) := bt_bits (fun k hk => by
      have := ((hV.2.2.2.2.2.1 v hvn).2 (3, k) (ofk_m.mp hk)).2.2.2.1 rfl
      have := hV.2.2.1
      omega)
    rw [bM_supply_138, M_drivers_e h.2.1, zci, bM_supply_144, if_neg (nI_ge (by omega) (by omega)), M_givesOf_e h hvn, zci, bM_supply_153, M_has_e _ (by omega), zci, bM_supply_157, hb, nI_add]
    have := ih (v + 1) (by omega)
    rw [bR_s] at this
    cases e : decide (s ∈ ofk 3 (P.2.2.2.1 v)) with
    | true =>
      rw [e, if_pos rfl] at this
      rw [if_neg (by decide)]
      exact this
    | false =>
      rw [e, if_neg (by decide)] at this
      rw [if_pos (by decide)]
      exact this
theorem M_supply_e (h : MX P sd T I) (v w : Int32) : EV ρ (d + 30) 102 0 [.ref 257, .int v, .int w, zU, zU, zU] [] (mk c R I L) = some ([.int (pSup P T v w)], mk c R (z2 I 257 2 (nI 0)) L) := by
  have hV := h.1
  have h8 := hV.2.2.1
  have h1 := MX_z2 (j := 2) (v := nI 0) h (by decide)
  rw [bM_supply_0, bM_supply_5, M_supplies_e h1.2.1, zci, bM_supply_11, M_within_e, zci, bM_supply_16, wi_in v (by omega)]
  unfold pSup
  by_cases hi : inN v P.1.2.2 = true
  · obtain ⟨s, hs, rfl⟩ := (inN_iff (by omega)).mp hi
    rw [nI_clamp (by omega), hi, if_neg (by decide), if_pos rfl]
    unfold qSup
    by_cases k0 : w = nI 0
    · rw [if_pos k0, if_pos k0, nI_add, zidx_n (by omega) (by decide), h1.2.2.2.2.1.2.1 s (by omega)]
    rw [if_neg k0, if_neg k0]
    by_cases k1 : w = nI 1
    · rw [if_pos k1, if_pos k1]
      exact M_supply_n h1 (by omega) P.1.1 0 (by omega)
    rw [if_neg k1, if_neg k1]
    by_cases k2 : w = nI 2
    · rw [if_pos k2, if_pos k2]
      exact M_supply_v h1 (by omega) P.1.2.1 0 (by omega)
    rw [if_neg k2, if_neg k2]
  · rw [Bool.eq_false_iff.mpr hi, if_pos (by decide), if_neg (by decide)]
theorem M_ones_l (h : MX P sd T I) {b y : Nat} {p : Nat → Bool} (hb : b ≤ 48) (hp : ∀ x, x < P.1.1 → (I 274 (b + x) = nI y ↔ p x = true)) : ∀ (n k : Nat), k + n = P.1.1 → EV ρ (d + 2) 105 5 [.ref 257, .int (nI b), .int (nI y), .int (bR k p), .int (nI k)] [] (mk c R I L) = some ([.int (bR P.1.1 p)], mk c R I L) := by
  have h12 := h.1.1
  intro n
  induction n with
  | zero =>
    intro k hk
    obtain rfl : k = P.1.1 := by omega
    rw [bM_ones_5, M_devices_e h.2.1, zci, bM_ones_11, if_pos (nI_le (by omega) (by omega))]
  | succ n ih =>
    intro k hk
    have := ih (k + 1) (by omega)
    rw [bR_s] at this
    rw [bM_ones_5, M_devices_e h.2.1, zci, bM_ones_11, if_neg (nI_ge (by omega) (by omega)), nI_add, zidx_n (by omega) (by decide), nI_add]
    cases e : p k with
    | true =>
      rw [e, if_pos rfl] at this
      rw [if_pos ((hp k (by omega)).mpr e)]
      exact this
    | false =>
      rw [e, if_neg (by decide)] at this
      rw [if_neg (fun z => by rw [(hp k (by omega)).mp z] at e; cases e)]
      exact this
theorem M_ones_e (h : MX P sd T I) {b y : Nat} {p : Nat → Bool} (hb : b ≤ 48) (hp : ∀ x, x < P.1.1 → (I 274 (b + x) = nI y ↔ p x = true)) : EV ρ (d + 2) 105 0 [.ref 257, .int (nI b), .int (nI y), zU, zU] [] (mk c R I L) = some ([.int (bR P.1.1 p)], mk c R I L) := by
  rw [bM_ones_0]
  exact M_ones_l h hb hp P.1.1 0 (by omega)
theorem lkN_s (T : TT) (n : Nat) : lkN T (n + 1) = lkN T n + cb (T.1.2.2.2 n) 12 := by
  unfold lkN
  rw [List.range_succ, List.map_append, List.sum_append]
  simp
theorem M_count_7 (h : MX P sd T I) : ∀ (n k : Nat), k + n = P.1.1 → EV ρ (d + 30) 106 119 [.ref 257, zU, .int (nI (lkN T k)), .int (nI k)] [] (mk c R I L) = some ([.int (nI (lkN T P.1.1))], mk c R I L) := by
  have h12 := h.1.1
  intro n
  induction n with
  | zero =>
    intro k hk
    obtain rfl : k = P.1.1 := by omega
    rw [bM_count1_119, M_devices_e h.2.1, zci, bM_count1_124, if_pos (nI_le (by omega) (by omega))]
  | succ n ih =>
    intro k hk
    rw [bM_count1_119, M_devices_e h.2.1, zci, bM_count1_124, if_neg (nI_ge (by omega) (by omega)), nI_add, zidx_n (by omega) (by decide), (h.2.2.2.1 k (by omega)).2.2.2.1, M_count_e _ (by omega), zci, bM_count1_142, nI_add, nI_add, ← lkN_s]
    exact ih (k + 1) (by omega)
theorem M_cnt_e (h : MX P sd T I) (hT : TV P T) (w : Int32) : EV ρ (d + 30) 106 0 [.ref 257, .int w, zU, zU] [] (mk c R I L) = some ([.int (pCnt P T (I 257 1) w)], mk c R (z2 I 257 2 (nI 0)) L) := by
  have hV := h.1
  have h12 := hV.1
  have h1 := MX_z2 (j := 2) (v := nI 0) h (by decide)
  rw [bM_count1_0, bM_count1_5]
  unfold pCnt
  by_cases k0 : w = nI 0
  · rw [if_pos k0, if_pos k0]
    rw [M_devices_e h1.2.1, zci, bM_count1_72]
  rw [if_neg k0, if_neg k0]
  by_cases k1 : w = nI 1
  · rw [if_pos k1, if_pos k1]
    rw [M_drivers_e h1.2.1, zci, bM_count1_77]
  rw [if_neg k1, if_neg k1]
  by_cases k2 : w = nI 2
  · rw [if_pos k2, if_pos k2]
    rw [M_supplies_e h1.2.1, zci, bM_count1_82]
  rw [if_neg k2, if_neg k2]
  by_cases k3 : w = nI 3
  · rw [if_pos k3, if_pos k3]
    rw [h1.2.2.2.2.1.2.2.1]
  rw [if_neg k3, if_neg k3]
  by_cases k4 : w = nI 4
  · rw [if_pos k4, if_pos k4]
    rw [M_ones_e h1 (b := 0) (y := 3) (p := fun x => decide (T.1.1.1.1 x = 3)) (by omega) (fun x hx => by rw [Nat.zero_add, (h1.2.2.1 x (by omega)).1, nI_eq (by have := hT.1 x; omega) (by decide), decide_eq_true_eq]), zci, bM_count1_98]
  rw [if_neg k4, if_neg k4]
  by_cases k5 : w = nI 5
  · rw [if_pos k5, if_pos k5]
    rw [h1.2.2.2.2.2.1.1]
  rw [if_neg k5, if_neg k5]
  by_cases k6 : w = nI 6
  · rw [if_pos k6, if_pos k6]
    rw [h1.2.2.2.2.1.2.2.2]
  rw [if_neg k6, if_neg k6]
  by_cases k7 : w = nI 7
  · rw [if_pos k7, if_pos k7]
    exact M_count_7 h1 P.1.1 0 (by omega)
  rw [if_neg k7, if_neg k7]
  by_cases k8 : w = nI 8
  · rw [if_pos k8, if_pos k8]
    rw [M_ones_e h1 (b := 48) (y := 1) (p := T.1.2.1.1) (by omega) (fun x hx => by rw [(h1.2.2.2.1 x (by omega)).2.2.1, bo1]), zci, bM_count1_159]
  rw [if_neg k8, if_neg k8]
  by_cases k9 : w = nI 9
  · rw [if_pos k9, if_pos k9]
    rw [h1.2.2.2.2.2.2.1.1]
  rw [if_neg k9, if_neg k9]
  by_cases k10 : w = nI 10
  · rw [if_pos k10, if_pos k10]
    rw [z2a, if_neg (by omega)]
  rw [if_neg k10, if_neg k10]
theorem M_log_e (h : MX P sd T I) (v w : Int32) : EV ρ (d + 30) 104 0 [.ref 257, .int v, .int w] [] (mk c R I L) = (match pLog T v w with
    | none => some ([.int (nI 0)], mk c R (z2 I 257 2 (nI 1)) L)
    | some x => some ([.int x], mk c R (z2 I 257 2 (nI 0)) L)) := by
  obtain ⟨l1, l2, l3⟩ := h.2.2.2.2.2.2.1
  rw [bM_log_0, l1, M_within_e, zci, wi_in v (by omega), bM_log_16]
  unfold pLog
  have f0 : z2 I 257 2 (nI 0) 257 2 = nI 0 := by rw [z2a, if_pos ⟨rfl, rfl⟩]
  have f1 : z2 I 257 2 (nI 1) 257 2 = nI 1 := by rw [z2a, if_pos ⟨rfl, rfl⟩]
  by_cases hi : inN v T.2.1.2.2.length = true
  · obtain ⟨x, hx, rfl⟩ := (inN_iff (by omega)).mp hi
    rw [nI_clamp (by omega), hi, if_neg (by decide), M_within_e, zci, bM_log_25, wi_inS w (n := 3) rfl (by decide)]
    by_cases hj : inN w 3 = true
    · obtain ⟨y, hy, rfl⟩ := (inN_iff (by omega)).mp hj
      obtain ⟨g1, g2, g3⟩ := l3 x _ (List.getElem?_eq_getElem hx)
      rw [hj, if_neg (by decide), bM_log_36, f0, if_neg (by decide), if_pos ⟨rfl, rfl⟩, pk_mul, nI_add, nI_add, zidx_n (by omega) (by decide), z2_ne (by decide), List.getElem?_eq_getElem hx]
      dsimp only
      have : y = 0 ∨ y = 1 ∨ y = 2 := by omega
      rcases this with rfl | rfl | rfl
      · rw [if_pos rfl, Nat.add_zero, g1]
      · rw [if_neg (by decide), if_pos rfl, show 288 + 3 * x + 1 = 289 + 3 * x by omega, g2]
      · rw [if_neg (by decide), if_neg (by decide), show 288 + 3 * x + 2 = 290 + 3 * x by omega, g3]
    · rw [Bool.eq_false_iff.mpr hj, if_pos (by decide), bM_log_36, f1, if_pos rfl, if_neg (fun z => by cases z.2)]
  · rw [Bool.eq_false_iff.mpr hi, if_pos (by decide), bM_log_36, f1, if_pos rfl, if_neg (fun z => by cases z.1)]
end MASK4
