-- THE COMPONENT'S BENCH: take away
section CAWAY
variable {ρ : Nat × (Nat → Int32)} {d : Nat} {c : Nat × Nat} {R : Nat → Nat → Option Nat} {I J : Nat → Nat → Int32} {L : Nat → Nat → Int64} {P : PT} {b p : Nat} {T : TT}
theorem Ben_away_e (h : CI P b p T R I) {x : Nat} (hx : x < P.1.1) (h3 : T.1.1.1.1 x ≠ 3) : ∃ J, EV ρ (d + 2) 180 0 [.ref b, .int (nI x)] [] (mk c R I L) = some ([], mk c R J L) ∧ CI P b p (tAwy T x) R J ∧ FZ [5, 12, 13, 14, 15, 16, 17] b I J ∧ J b = I b := by
  have h' := h
  obtain ⟨⟨hb, hV, hR, hC, hT⟩, hI, hH⟩ := h
  have h12 := hV.1
  have hr := hI.1.1.row hV
  have h1 := CR_st (show x < 12 by omega) (v := 0) (by decide) hb hT
  have hZ : FZ [5, 12, 13, 14, 15, 16, 17] b I (z2 I (b + 1) x (nI 0)) := FZ.rf.zk (by decide) (by decide)
  obtain ⟨K, g1, g2, g3⟩ := Row_drop_e (ρ := ρ) (d := d) (c := c) (R := R) (L := L) (xb_r10 hb) h1.2.2.2.1 (fun y hy => by have := hr.2 y hy; omega) (v := x) (by omega)
  have hZ2 := hZ.eo (m := 10) (by decide) (by decide) g3
  have h2 := CR_row hb h1 g3 g2
  have h4 := CR_re (show x < 12 by omega) (nI 0) hb h2
  have h5 := CR_ca (show x < 12 by omega) (-1) hb h4
  have hZ3 : FZ [5, 12, 13, 14, 15, 16, 17] b I (z2 (z2 K (b + 3) x (nI 0)) (b + 4) x (-1)) := (hZ2.zk (by decide) (by decide)).zk (by decide) (by decide)
  rw [bBen_makeAway_0, zob (xb_o hb), xb_F2 hb, zrs, zar (xb_a1 hb), zidx_n (by omega) (by decide), bBen_makeAway_7, zob (xb_o hb), xb_F11 hb, zrs, zob (xb_r10 hb).1, g1, zcv, bBen_makeAway_15, zob (xb_o hb), xb_F4 hb, zrs, zar (xb_a3 hb), zidx_n (by omega) (by decide), bBen_makeAway_22, zob (xb_o hb), xb_F5 hb, zrs, zar (xb_a4 hb), zidx_n (by omega) (by decide), bBen_makeAway_29]
  refine ⟨_, rfl, CI_to (U := tAwy T x) h' h5 hZ3.1 (IV_awy hI h3) (fun y hy => (st_3 h3 (by decide) y).mp hy) (fun _ _ => rfl) (hZ3.2 5 (by decide)), hZ3, ?_⟩
  rw [z2_ne (by omega), z2_ne (by omega), g3 b (by simp only [List.mem_cons, List.not_mem_nil, or_false]; omega), z2_ne (by omega)]
theorem Ben_isUnder_e (h : CX P b p T R I) {x y : Nat} (hx : x < P.1.1) (hy : y < P.1.1) : EV ρ (d + 1) 179 0 [.ref b, .int (nI y), .int (nI x), zU, zU] [] (mk c R I L) = some ([.int (bo (und P x 12 y))], mk c R I L) := by
  obtain ⟨hb, hV, hR, hC, hT⟩ := h
  have h12 := hV.1
  have hp := hC.1
  have hm1 : ¬ (-1 : Int32) = nI x := fun z => nI_m1 (by omega) z.symm
  have none_ : ∀ j : Nat, EV ρ (d + 1) 179 5 [.ref b, zU, .int (nI x), .int (-1), .int (nI j)] [] (mk c R I L) = some ([.int (nI 0)], mk c R I L) := fun j => by
    rw [bBen_isUnder_5, if_neg hm1, if_pos rfl]
    split <;> rfl
  have loop : ∀ (m j y : Nat), j + m = 12 → y < P.1.1 → EV ρ (d + 1) 179 5 [.ref b, zU, .int (nI x), .int (nI y), .int (nI j)] [] (mk c R I L) = some ([.int (bo (und P x m y))], mk c R I L) := by
    intro m
    induction m with
    | zero =>
      intro j y hj hy
      rw [bBen_isUnder_5, if_pos (nI_le (by omega) (by omega))]
      unfold und
      by_cases e : y = x
      · rw [if_pos (by rw [e]), decide_eq_true e]; rfl
      · rw [if_neg (by rw [nI_eq (by omega) (by omega)]; exact e), decide_eq_false e]; rfl
    | succ m ih =>
      intro j y hj hy
      unfold und
      rw [bBen_isUnder_5, if_neg (nI_ge (by omega) (by decide)), if_neg (nI_m1 (by omega))]
      by_cases e : y = x
      · rw [if_pos (by rw [e]), if_pos (by rw [e]), decide_eq_true e, Bool.true_or]; rfl
      · rw [if_neg (by rw [nI_eq (by omega) (by omega)]; exact e), decide_eq_false e, Bool.false_or, zob (xb_o hb), hR, zrs, zob (xp_o hp), xp_F6 hp, zrs, zar (xp_a4 hp), zidx_n (by omega) (by decide), (hC.2.2.2.2.1 y hy).1, nI_add]
        cases ep : P.2.1 y with
        | none => exact none_ (j + 1)
        | some k =>
          have := hV.2.2.2.1 y hy k ep
          exact ih (j + 1) k (by omega) (by omega)
  rw [bBen_isUnder_0]
  exact loop 12 0 y (by omega) hy
theorem ms_lt {k x : Nat} (hk : k < 2 ^ 20) (hx : x < 2 ^ 20) : nI k - nI 1 < nI x ↔ k < x + 1 := by
  rw [Int32.lt_iff_toInt_lt, pk_sub_toInt (by omega) (by omega), nI_toInt (by omega)]
  omega
theorem Ben_takeAway_l {x : Nat} (hx : x < P.1.1) : ∀ (k : Nat) (W : (TT × List Nat) × Nat) (I : Nat → Nat → Int32), k ≤ P.1.1 → CI P b p W.1.1 R I → RowIs I (b + 16) W.1.2 → W.1.2.length + W.1.1.1.2.2.1.length ≤ 12 → ∃ J, EV ρ (d + 18) 178 12 [.ref b, .int (nI x), .int (nI W.2), .int (nI k - nI 1)] [] (mk c R I L) = some ([.int (nI (tRem P x (List.range k).reverse W).2)], mk c R J L) ∧ CI P b p (tRem P x (List.range k).reverse W).1.1 R J ∧ FZ [5, 12, 13] b I J ∧ J b 18 = I b 18 := by
  intro k
  induction k with
  | zero =>
    intro W I hk h hG hl
    have := h.1.2.1.1
    rw [bBen_takeAway_12, if_pos ((ms_lt (by omega) (by omega)).mpr (by omega))]
    exact ⟨I, rfl, h, FZ.rf, rfl⟩
  | succ k ih =>
    intro W I hk h hG hl
    have h' := h
    obtain ⟨⟨hb, hV, hR, hC, hT⟩, hI, hH⟩ := h
    have h12 := hV.1
    have hkd : k < P.1.1 := by omega
    have hst := hI.1.1.1 k
    by_cases ex : k < x
    · rw [bBen_takeAway_12, if_pos ((ms_lt (by omega) (by omega)).mpr (by omega)), tRem_skip hV _ _ (fun y hy => by
        have := List.mem_range.mp (List.mem_reverse.mp hy)
        omega)]
      exact ⟨I, rfl, h', FZ.rf, rfl⟩
    · rw [bBen_takeAway_12, if_neg (fun z => by have := (ms_lt (by omega) (by omega)).mp z; omega), pk_sub (by omega), show k + 1 - 1 = k from rfl, zob (xb_o hb), xb_F2 hb, zrs, zar (xb_a1 hb), zidx_n (by omega) (by decide), (hT.1 k (by omega)).1, rgr_s]
      unfold tRem
      by_cases e0 : W.1.1.1.1.1.1 k = 0
      · rw [if_pos (by rw [e0]; rfl), if_neg (fun z => z.1 e0), i1_m]
        exact ih W I (by omega) h' hG hl
      · rw [if_neg (by rw [nn1 (by omega)]; exact e0), zob (xb_o hb), Ben_isUnder_e h'.1 hx hkd, zci, bBen_takeAway_32]
        cases eu : und P x 12 k with
        | false =>
          rw [if_pos (by decide), if_neg (fun z => by cases z.2), i1_m]
          exact ih W I (by omega) h' hG hl
        | true =>
          rw [if_neg (by decide), if_pos ⟨e0, rfl⟩, zob (xb_o hb), xb_F2 hb, zrs, zar (xb_a1 hb), zidx_n (by omega) (by decide), (hT.1 k (by omega)).1]
          obtain ⟨a1, a2, a3, a4⟩ := tAway_v (W := W.1) hV hI hkd
          have key : ∃ K, (if nI (W.1.1.1.1.1.1 k) = nI 3 then (zobj zC (mk c R I L) b 0 (zcV (EV ρ (d + 17) 173 0 [.ref b, .int (nI k), .int (nI 0), zU, zU] [] (mk c R I L)) fun s3 => EV ρ (d + 18) 178 51 [.ref b, .int (nI x), .int (nI W.2), .int (nI k)] [] s3)) else (EV ρ (d + 18) 178 51 [.ref b, .int (nI x), .int (nI W.2), .int (nI k)] [] (mk c R I L))) = EV ρ (d + 18) 178 12 [.ref b, .int (nI x), .int (nI (W.2 + 1)), .int (nI k - nI 1)] [] (mk c R K L) ∧ CI P b p (tAway P W.1 k).1 R K ∧ RowIs K (b + 16) (tAway P W.1 k).2 ∧ FZ [5, 12, 13] b I K ∧ K b 18 = I b 18 := by
            unfold tAway
            by_cases e3 : W.1.1.1.1.1.1 k = 3
            · obtain ⟨A, B, hbd, hn⟩ := bnd_at hV hI.1.1 hkd e3
              have k13 := (tLet_v hV hI hbd hn).2.2.2.2.2.2.2.2.2.1
              obtain ⟨K, g1, g2, g3, g4, g5⟩ := Ben_letGo_e (ρ := ρ) (d := d) (c := c) (L := L) (T := W.1.1) (g := W.1.2) h' hkd e3 hG hl
              obtain ⟨M, m1, m2, m3, m4⟩ := Ben_away_e (ρ := ρ) (d := d + 15) (c := c) (L := L) g2 hkd (by rw [k13]; decide)
              rw [if_pos (by rw [e3]), if_pos e3, zob (xb_o hb), g1, zcv, bBen_takeAway_51, zob (xb_o hb), m1, zcv, bBen_takeAway_56, nI_add, i1_m]
              exact ⟨M, rfl, m2, RowIs_to g3 (m3.2 16 (by decide)) (m3.2 17 (by decide)), g4.tr (m3.mo (by decide)), by rw [m4, g5]⟩
            · obtain ⟨M, m1, m2, m3, m4⟩ := Ben_away_e (ρ := ρ) (d := d + 15) (c := c) (L := L) h' hkd e3
              rw [if_neg (by rw [nI_eq (by omega) (by decide)]; exact e3), if_neg e3, bBen_takeAway_51, zob (xb_o hb), m1, zcv, bBen_takeAway_56, nI_add, i1_m]
              exact ⟨M, rfl, m2, RowIs_to hG (m3.2 16 (by decide)) (m3.2 17 (by decide)), m3.mo (by decide), by rw [m4]⟩
          obtain ⟨K, k1, k2, k3, k4, k5⟩ := key
          obtain ⟨J, j1, j2, j3, j4⟩ := ih (tAway P W.1 k, W.2 + 1) K (by omega) k2 k3 (by show (tAway P W.1 k).2.length + (tAway P W.1 k).1.1.2.2.1.length ≤ 12; omega)
          exact ⟨J, k1.trans j1, j2, k4.tr j3, j4.trans k5⟩
theorem Ben_takeAway_e (h : CI P b p T R I) (hG : RowIs I (b + 16) []) {x : Nat} (hx : x < P.1.1) : ∃ J, EV ρ (d + 18) 178 0 [.ref b, .int (nI x), zU, zU] [] (mk c R I L) = some ([.int (nI (tRemv P T x).2)], mk c R J L) ∧ CI P b p (tRemv P T x).1.1 R J ∧ FZ [5, 12, 13] b I J ∧ J b 18 = I b 18 := by
  have hb := h.1.1
  have hC := h.1.2.2.2.1
  rw [bBen_takeAway_0, zob (xb_o hb), h.1.2.2.1, zrs, zob (xp_o hC.1), hC.2.1]
  exact Ben_takeAway_l (ρ := ρ) (d := d) (c := c) (L := L) hx P.1.1 ((T, []), 0) I (Nat.le_refl _) h hG (by
    have := bnd_12 h.1.2.1 h.2.1.1.1
    show 0 + T.1.2.2.1.length ≤ 12
    omega)
end CAWAY
