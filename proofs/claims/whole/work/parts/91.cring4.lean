-- THE COMPONENT: rings, the row
theorem find_12 {n : Nat} {p q : Nat → Bool} (hn : n ≤ 12) (h1 : ∀ o, o < n → q o = p o) (h2 : ∀ o, n ≤ o → o < 12 → q o = false) : (List.range 12).find? q = (List.range n).find? p := by
  have e : List.range 12 = List.range n ++ (List.range (12 - n)).map (n + ·) := by rw [← List.range_add, show n + (12 - n) = 12 from by omega]
  rw [e, List.find?_append, find_cg (fun y hy => h1 y (List.mem_range.mp hy))]
  have : ((List.range (12 - n)).map (n + ·)).find? q = none := List.find?_eq_none.mpr (fun y hy => by
    obtain ⟨k, hk, rfl⟩ := List.mem_map.mp hy
    have := List.mem_range.mp hk
    rw [h2 _ (by omega) (by omega)]
    decide)
  rw [this, Option.or_none]
section CRING4
variable {ρ : Nat × (Nat → Int32)} {d : Nat} {c : Nat × Nat} {R : Nat → Nat → Option Nat} {I J : Nat → Nat → Int32} {L : Nat → Nat → Int64} {P : PT} {p : Nat} {T : TT}
/-- the ring, as a row -/
noncomputable def rgR (P : PT) (T : TT) (x i : Nat) : List Nat := (List.range i).map (rgA (wts P T) P.1.1 x (rgL P T x))
theorem rgR_s (x i : Nat) : rgR P T x (i + 1) = rgR P T x i ++ [rgA (wts P T) P.1.1 x (rgL P T x) i] := by
  unfold rgR
  rw [List.range_succ, List.map_append]
  rfl
theorem rgR_len (x i : Nat) : (rgR P T x i).length = i := by unfold rgR; simp
theorem Rin_row (hV : PV P) {x : Nat} (hx : x < P.1.1) (hL : rgL P T x < 99) (hL12 : rgL P T x ≤ 12) : ∀ (r i : Nat) (I : Nat → Nat → Int32), i + 1 + r = rgL P T x → WA (wts P T) P.1.1 I → (∀ k, k < rgL P T x → NR (wts P T) P.1.1 x I k) → RowIs I 254 (rgR P T x (i + 1)) → ∃ J, EV ρ (d + 6) 190 78 [.ref 251, zU, zU, zU, .int (nI (rgA (wts P T) P.1.1 x (rgL P T x) i)), .int (nI (rgL P T x - 1 - i)), zU] [] (mk c R I L) = some ([.ref 254], mk c R J L) ∧ RowIs J 254 (rgR P T x (rgL P T x)) ∧ ∀ q, q ≠ 254 → q ≠ 255 → J q = I q := by
  have h12 := hV.1
  intro r
  induction r with
  | zero =>
    intro i I hi hW hN hr
    rw [bRin_seek_78, if_pos (nI_lt (by omega) (by decide)), show rgL P T x = i + 1 from by omega]
    exact ⟨I, rfl, hr, fun _ _ _ => rfl⟩
  | succ r ih =>
    intro i I hi hW hN hr
    obtain ⟨g1, g2, g3⟩ := rgA_p (W := wts P T) (n := P.1.1) (x := x) h12 hx hL i (by show i < rgL P T x; omega)
    obtain ⟨y, y1, y2, y3, y4⟩ := g3 (by show i + 1 < rgL P T x; omega)
    have y1 : (List.range P.1.1).find? (fun o => bt (wts P T (rgA (wts P T) P.1.1 x (rgL P T x) i)) o && decide (dst (wts P T) P.1.1 x o = rgL P T x - 1 - i)) = some y := y1
    have y3 : rgA (wts P T) P.1.1 x (rgL P T x) (i + 1) = y := y3
    have g1 : rgA (wts P T) P.1.1 x (rgL P T x) i < P.1.1 := g1
    rw [bRin_seek_78, if_neg (i1_ge (by omega) (by omega)), zidx_n (by omega) (by decide), zidx_n (by omega) (by decide), hW.1 _ g1]
    generalize ea : rgA (wts P T) P.1.1 x (rgL P T x) i = at_ at g1 y1
    have hNl := hN (rgL P T x - 1 - i) (by omega)
    have hlow : lwb (wts P T at_ &&& I 253 (rgL P T x - 1 - i)) = some y := by
      unfold lwb
      rw [← y1]
      refine find_12 h12 (fun o ho => ?_) (fun o ho1 ho2 => ?_)
      · rw [b_and]
        congr 1
        rw [Bool.eq_iff_iff, hNl o (by omega), decide_eq_true_eq]
        constructor
        · exact fun z => ed_u (dst_ed z.2.1).1 z.2
        · intro z
          refine ⟨ho, ?_⟩
          have := (dst_99 (W := wts P T) (x := x) h12 ho (by omega)).1
          rw [z] at this
          exact this
      · rw [b_and]
        cases e : bt (wts P T at_) o with
        | false => rfl
        | true =>
          have := wts_lt hV e
          omega
    rw [Int_low_e (fun j hj => by rw [b_and, Bool.and_eq_true] at hj; have := wts_lt hV hj.1; omega), zci, bRin_seek_102, hlow]
    have hp2 : 2 ^ y < 2 ^ 12 := Nat.pow_lt_pow_right (by decide) (by omega)
    have hp0 : 0 < 2 ^ y := Nat.pow_pos (by decide)
    have hl1 := rgR_len (P := P) (T := T) x (i + 1)
    have hap := RowIs_app hr (by rw [hl1]; omega) y
    dsimp only
    rw [if_neg (by rw [nn1 (by omega)]; omega), Int_ntz_e y (by omega), zci, bRin_seek_119, Row_append_e isRw_254 hr (by rw [hl1]; omega), zcv, bRin_seek_130, i1_m, pk_sub (by omega)]
    rw [← y3, ← rgR_s] at hap
    obtain ⟨J, j1, j2, j3⟩ := ih (i + 1) _ (by omega) ⟨fun z hz => by rw [z2_ne (by decide), z2_ne (by decide)]; exact hW.1 z hz, fun z h1 h2 => by rw [z2_ne (by decide), z2_ne (by decide)]; exact hW.2 z h1 h2⟩ (fun k hk j hj => by rw [z2_ne (by decide), z2_ne (by decide)]; exact hN k hk j hj) hap
    rw [y3, show rgL P T x - 1 - (i + 1) = rgL P T x - 1 - i - 1 from by omega] at j1
    exact ⟨J, j1, j2, fun q h1 h2 => by rw [j3 q h1 h2, z2_ne h1, z2_ne h2]⟩
theorem rgL_pos (x : Nat) (h : rgL P T x < 99) : 1 ≤ rgL P T x := by
  obtain ⟨h1, -, -⟩ := lst_p (W := wts P T) (n := P.1.1) (x := x) (List.range P.1.1) 99
  rcases h1 with h1 | ⟨o, -, -, h1⟩
  · have h1 : rgL P T x = 99 := h1
    omega
  · have h1 : rgL P T x = dst (wts P T) P.1.1 x o + 1 := h1
    omega
theorem Rin_seek_e (h : CX P 86 p T R I) (hv : TV P T) {x : Nat} (hx : x < P.1.1) : ∃ J, EV ρ (d + 6) 190 0 [.ref 251, .ref 86, .int (nI x), zU, zU, zU, zU] [] (mk c R I L) = some ([.ref 254], mk c R J L) ∧ RowIs J 254 (if rgL P T x < 99 then rgR P T x (rgL P T x) else []) ∧ FQ I J := by
  have hV := h.2.1
  have h12 := hV.1
  have hp := h.2.2.2.1.1
  have hX : CX P 86 p T R (z2 I 254 1 (nI 0)) := ⟨h.1, hV, h.2.2.1, PC_to h.2.2.2.1 hV (fun q g1 g2 => z2_ne (by unfold isP at hp; omega)), CR_to h.2.2.2.2 (fun k hk => z2_ne (by simp only [List.mem_cons, List.not_mem_nil, or_false] at hk; omega)) (by rw [z2_ne (by decide)]) (by rw [z2_ne (by decide)]) (by rw [z2_ne (by decide)]) (fun _ => ⟨z2_ne (by decide), z2_ne (by decide)⟩) (by rw [z2_ne (by decide)])⟩
  obtain ⟨K, k1, k2, k3⟩ := Rin_fill (ρ := ρ) (d := d) (c := c) (L := L) (x := x) 12 0 _ (by omega) hX hv (fun y hy => by omega) (fun y hy => by omega)
  obtain ⟨M, m1, m2, m3, m4⟩ := Rin_way (ρ := ρ) (d := d + 3) (c := c) (R := R) (L := L) hV hx k2
  have hr0 : RowIs M 254 [] := by
    refine ⟨?_, by decide, fun i v hi => by cases hi⟩
    rw [m4 254 (by decide), k3 254 (by decide), z2_at]
    rfl
  have hF : FQ I M := fun q hq => by rw [m4 q (by omega), k3 q (by omega), z2_ne (by omega)]
  rw [bRin_seek_0, Row_clear_e isRw_254, zcv, bRin_seek_7, k1, bRin_seek_9, if_pos (nI_le (Nat.le_refl _) (by decide)), m1, zci, bRin_seek_52]
  by_cases e : rgL P T x < 99
  · obtain ⟨hl, hN⟩ := m3 e
    have hp1 := rgL_pos x e
    rw [if_pos e, if_neg (by rw [nn1 (by omega)]; omega), if_pos e, Row_append_e isRw_254 hr0 (by decide), zcv, bRin_seek_70, pk_sub (by omega)]
    have hap := RowIs_app hr0 (by decide) x
    obtain ⟨J, j1, j2, j3⟩ := Rin_row (ρ := ρ) (d := d) (c := c) (R := R) (L := L) hV hx e hl (rgL P T x - 1) 0 _ (by omega) ⟨fun z hz => by rw [z2_ne (by decide), z2_ne (by decide)]; exact m2.1 z hz, fun z h1 h2 => by rw [z2_ne (by decide), z2_ne (by decide)]; exact m2.2 z h1 h2⟩ (fun k hk j hj => by rw [z2_ne (by decide), z2_ne (by decide)]; exact hN k hk j hj) hap
    exact ⟨J, j1, j2, hF.tr (fun q hq => by rw [j3 q (by omega) (by omega), z2_ne (by omega), z2_ne (by omega)])⟩
  · rw [if_neg e, if_pos (show nI 0 = 0 from rfl), if_neg e]
    exact ⟨M, rfl, hr0, hF⟩
theorem B_ring_e (h : BX P p T R I) (v w : Int32) : ∃ S J, EV ρ (d + 30) 212 0 [.ref 0, .int v, .int w, zU] [] (mk c R I L) = some ([.int (pRin P T v w)], mk c S J L) ∧ RQ R S ∧ FQ I J := by
  obtain ⟨hR8, hCI⟩ := h
  have hV := hCI.1.2.1
  have hC := hCI.1.2.2.2.1
  have h12 := hV.1
  rw [bB_ring_0, hR8, zrs, zob (xp_o hC.1), Pla_dev_e hC, zci, bB_ring_8]
  unfold pRin
  by_cases hi : inN v P.1.1 = true
  · obtain ⟨x, hx, rfl⟩ := (inN_iff (by omega)).mp hi
    obtain ⟨J, j1, j2, j3⟩ := Rin_seek_e (ρ := ρ) (d := d + 23) (c := c) (L := L) hCI.1 hCI.2.1.1.1 hx
    rw [nI_clamp (by omega), hi, if_neg (by decide), j1, if_pos rfl]
    refine ⟨R, J, ?_, RQ.rf, j3⟩
    show EV ρ (d + 30) 212 25 [zU, zU, .int w, zU] [.ref 254] (mk c R J L) = _
    rw [bB_ring_25, zob isRw_254.1, zob isRw_254.1, zob isRw_254.1, Row_at_e isRw_254 j2, zci, bB_ring_48, j2.1]
    have hm1 : (-1 : Int32) < 0 := by decide
    by_cases e : rgL P T x < 99
    · have hp1 := rgL_pos x e
      have hll : (rgR P T x (rgL P T x)).length = rgL P T x := rgR_len _ _
      have hA : (if w < 0 ∨ nI (rgL P T x) ≤ w then (-1 : Int32) else eO (rgR P T x (rgL P T x))[w.toNatClampNeg]?) = (if inN w (rgL P T x) = true ∧ rgL P T x < 99 then nI (rgA (wts P T) P.1.1 x (rgL P T x) w.toNatClampNeg) else -1) := by
        by_cases ei : inN w (rgL P T x) = true
        · obtain ⟨k, hk, rfl⟩ := (inN_iff (by omega)).mp ei
          have hin := of_decide_eq_true (show decide (¬ nI k < 0 ∧ ¬ nI (rgL P T x) ≤ nI k) = true from ei)
          rw [if_pos (show inN (nI k) (rgL P T x) = true ∧ rgL P T x < 99 from ⟨ei, e⟩), if_neg (show ¬ (nI k < 0 ∨ nI (rgL P T x) ≤ nI k) from fun z => z.elim hin.1 hin.2), nI_clamp (by omega)]
          have : (rgR P T x (rgL P T x))[k]? = some (rgA (wts P T) P.1.1 x (rgL P T x) k) := by
            unfold rgR
            rw [List.getElem?_map, List.getElem?_range hk]
            rfl
          rw [this]
          rfl
        · rw [if_neg (show ¬ (inN w (rgL P T x) = true ∧ rgL P T x < 99) from fun z => ei z.1), if_pos (show w < 0 ∨ nI (rgL P T x) ≤ w from Classical.byContradiction fun z => ei (by unfold inN; exact decide_eq_true ⟨fun y => z (Or.inl y), fun y => z (Or.inr y)⟩))]
      rw [if_pos (show rgL P T x < 99 from e), hll, hA]
      by_cases ew : w = -1
      · rw [if_pos (show w = -1 from ew), if_pos (show w = -1 ∧ rgL P T x < 99 from ⟨ew, e⟩), if_neg (show ¬ nI (rgL P T x) ≤ 0 from nI_ge (show 0 < rgL P T x by omega) (by omega))]
      · rw [if_neg (show ¬ w = -1 from ew), if_neg (show ¬ (w = -1 ∧ rgL P T x < 99) from fun z => ew z.1)]
    · have hout : w < 0 ∨ nI ([] : List Nat).length ≤ w := by
        by_cases hu : w < 0
        · exact Or.inl hu
        · exact Or.inr (Int32.not_lt.mp hu)
      rw [if_neg (show ¬ rgL P T x < 99 from e), if_pos hout, if_neg (show ¬ (w = -1 ∧ rgL P T x < 99) from fun z => e z.2), if_neg (show ¬ (inN w (rgL P T x) = true ∧ rgL P T x < 99) from fun z => e z.2)]
      by_cases ew : w = -1
      · rw [if_pos (show w = -1 from ew), if_pos (show nI ([] : List Nat).length ≤ 0 by decide)]
      · rw [if_neg (show ¬ w = -1 from ew)]
  · rw [Bool.eq_false_iff.mpr hi, if_pos (by decide), if_neg (by decide)]
    exact ⟨R, I, rfl, RQ.rf, FQ.rf⟩
end CRING4
