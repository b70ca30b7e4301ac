-- THE COMPONENT: wanted, the walk over all sets
section CWAN3
variable {ρ : Nat × (Nat → Int32)} {d : Nat} {c : Nat × Nat} {R S : Nat → Nat → Option Nat} {I J : Nat → Nat → Int32} {L : Nat → Nat → Int64} {P : PT} {p : Nat} {T : TT}
theorem isB_e {e : Nat} (he : e < 8) : isB (107 + 18 * e) := by unfold isB; omega
/-- one driver more, on a trial bench -/
theorem B_trial {a e k D : Nat} {W : TT} (he : e < 8) (ha : a + 18 ≤ 107 + 18 * e) (h : CI P a p W R I) (hk : k < P.1.2.1) (hc : W.2.2.2.2 + 24 < 2 ^ 30 + W.1.2.2.1.length) : ∃ K M N J, EV ρ (D + 9) 158 0 [.ref (107 + 18 * e), .ref a] [] (mk c R I L) = some ([], mk c (z2 R (107 + 18 * e) 0 (some p)) K L) ∧ EV ρ (D + 9) 159 0 [.ref (107 + 18 * e)] [] (mk c (z2 R (107 + 18 * e) 0 (some p)) K L) = some ([], mk c (z2 R (107 + 18 * e) 0 (some p)) M L) ∧ EV ρ (D + 9) 161 0 [.ref (107 + 18 * e), .int (nI k), zU] [] (mk c (z2 R (107 + 18 * e) 0 (some p)) M L) = some ([], mk c (z2 R (107 + 18 * e) 0 (some p)) N L) ∧ EV ρ (D + 9) 170 0 [.ref (107 + 18 * e), zU, zU, zU, zU] [] (mk c (z2 R (107 + 18 * e) 0 (some p)) N L) = some ([], mk c (z2 R (107 + 18 * e) 0 (some p)) J L) ∧ CI P (107 + 18 * e) p (tLoad P W k) (z2 R (107 + 18 * e) 0 (some p)) J ∧ XQ (107 + 18 * e) I J ∧ J 256 = I 256 := by
  have hV := h.1.2.1
  have hI := h.2.1
  have hb := isB_e he
  have hb86 : 107 + 18 * e ≠ 86 := by omega
  obtain ⟨K, g1, g2, g3⟩ := Ben_copyFrom_e (ρ := ρ) (d := D + 7) (c := c) (L := L) h hb (by omega) hb86
  obtain ⟨M, m1, m2, m3, m4, m5, m6⟩ := Ben_begin_e (ρ := ρ) (d := D + 7) (c := c) (L := L) g2
  obtain ⟨N, n1, n2, n3, n4, n5⟩ := Ben_install_e (ρ := ρ) (d := D + 3) (c := c) (L := L) m2 hk
  have hBF := (tTries_v (p := fun y => (P.2.2.2.2.1 k y).isSome) hV (List.range P.1.1) _ rg_lt (IV_ld (v := W.2.2.1.2 ||| (nI 1 <<< (nI k &&& 31))) hI)).2
  have hcn := hBF.2.1
  obtain ⟨J, j1, j2, j3, j4, j5⟩ := Ben_settle_e (ρ := ρ) (d := D + 3) (c := c) (L := L) (c0 := W.2.2.2.2) n2 hBF.2.2.1 (by
    have e1 : (u_ld W (W.2.2.1.2 ||| (nI 1 <<< (nI k &&& 31)))).2.2.2.2 = W.2.2.2.2 := rfl
    have e2 : (u_ld W (W.2.2.1.2 ||| (nI 1 <<< (nI k &&& 31)))).1.2.2.1 = W.1.2.2.1 := rfl
    rw [e1, e2] at hcn
    have := bnd_12 hV hI.1.1
    omega) (n5.at (Nat.le_refl _) (by rw [m6, Nat.sub_self]))
  refine ⟨K, M, N, J, g1, m1, n1, j1, ?_, (XQ.f he g3).tr ((XQ.fb he m4.1).tr ((XQ.fb he n3.1).tr (XQ.fb he j3.1))), ?_⟩
  · have hS := SF_sync P (tLoad0 P W k)
    have hI2 : IV P (tLoad P W k) := (tLoad_v hV hI).1
    exact ⟨⟨hb, hV, j2.1.2.2.1, j2.1.2.2.2.1, CR_SF j2.1.2.2.2.2 hb86 hS⟩, hI2, CH_to j2.2.2 hV j2.2.1 (fun y hy => by
      have : (tSync P (tLoad0 P W k)).1.1.1.1 y = 3 := hy
      rw [hS.1] at this
      exact this) (fun y _ => by
      show (tSync P (tLoad0 P W k)).2.1.1.1 y = _
      rw [hS.2.2.2.2.2.2.2.1]
      rfl) rfl⟩
  · rw [j3.1 256 (by omega) (by omega), n3.1 256 (by omega) (by omega), m4.1 256 (by omega) (by omega), g3 256 (by omega)]
theorem vis_nz {f m k s : Nat} (hm : m < 2 ^ f) (h : Vis P T f m k s) (h8 : P.1.2.1 ≤ 8) : s < 256 ∧ s ≠ 0 := by
  obtain ⟨⟨h1, h2, h3, h4⟩, j, hj, hd⟩ := h
  refine ⟨Nat.lt_of_lt_of_le h3 (Nat.pow_le_pow_right (by decide) h8), fun e => ?_⟩
  subst e
  rw [Nat.zero_testBit] at hd
  by_cases hjf : j < f
  · rw [← h1 j hjf, Nat.zero_testBit] at hd
    exact hd rfl
  · rw [hi_f hm j (by omega)] at hd
    exact hd rfl
theorem B_explore_l (hV : PV P) : ∀ (n D e f m a : Nat) (W : TT) (R : Nat → Nat → Option Nat) (I : Nat → Nat → Int32) (Q : Nat → Prop), e + n = 8 → n + 9 ≤ D → e ≤ f → f ≤ P.1.2.1 → m < 2 ^ f → (∀ j, m.testBit j = true → bt T.2.2.1.2 j = false) → a + 18 ≤ 107 + 18 * e → R 0 8 = some p → CI P a p W R I → W = tLds P (sL P.1.2.1 m) T → (∀ j, f ≤ j → j < 32 → bt W.2.2.1.2 j = bt T.2.2.1.2 j) → W.2.2.2.2 + 36 < 2 ^ 30 + W.1.2.2.1.length → (∀ s, Q s → s < 256 ∧ s ≠ 0) → WB P T Q I → ∃ S J, EV ρ (D) 220 0 [.ref 0, .ref a, .int (nI f), .int (nI m), .int (nI e), zU, zU] [] (mk c R I L) = some ([], mk c S J L) ∧ XR (107 + 18 * e) R S ∧ XQ (107 + 18 * e) I J ∧ WB P T (fun s => Q s ∨ Ext P T f m s) J := by
  have h8 := hV.2.1
  intro n
  induction n with
  | zero =>
    intro D e f m a W R I Q he hD hef hfn hm hml ha hR8 hC hW hld hcn hQ hB
    obtain ⟨D', rfl⟩ : ∃ D', D = D' + 1 := ⟨D - 1, by omega⟩
    rw [bB_explore_0, if_neg (i1_ge (by omega) (by omega))]
    refine ⟨R, I, rfl, XR.rf, XQ.rf, WB_iff hB (fun s => ⟨Or.inl, fun h => h.elim id (fun z => ?_)⟩)⟩
    exact absurd (Nat.eq_of_testBit_eq (fun j => by
      by_cases hj : j < f
      · exact z.1 j hj
      · rw [hi_f hm j (by omega), hi_f z.2.2.1 j (by omega)])) z.2.1
  | succ n ih =>
    intro D e f m a W R I Q he hD hef hfn hm hml ha hR8 hC hW hld hcn hQ hB
    obtain ⟨D', rfl⟩ : ∃ D', D = D' + 9 + 1 := ⟨D - 10, by omega⟩
    have he8 : e < 8 := by omega
    have hmn : m < 2 ^ P.1.2.1 := Nat.lt_of_lt_of_le hm (Nat.pow_le_pow_right (by decide) hfn)
    have loop : ∀ (r k : Nat) (R : Nat → Nat → Option Nat) (I : Nat → Nat → Int32), k + r = P.1.2.1 → f ≤ k → R 0 8 = some p → CI P a p W R I → WB P T (fun s => Q s ∨ Vis P T f m k s) I → ∃ S J, EV ρ (D' + 9 + 1) 220 20 [.ref 0, .ref a, zU, .int (nI m), .int (nI e), .ref (107 + 18 * e), .int (nI k)] [] (mk c R I L) = some ([], mk c S J L) ∧ XR (107 + 18 * e) R S ∧ XQ (107 + 18 * e) I J ∧ WB P T (fun s => Q s ∨ Ext P T f m s) J := by
      intro r
      induction r with
      | zero =>
        intro k R I hk hfk hR8 hC hB
        have hP := hC.1.2.2.2.1
        rw [bB_explore_20, hR8, zrs, zob (xp_o hP.1), hP.2.2.1, if_pos (nI_le (by omega) (by omega))]
        refine ⟨R, I, rfl, XR.rf, XQ.rf, WB_iff hB (fun s => ?_)⟩
        rw [show k = P.1.2.1 from by omega, Vis_end hmn]
      | succ r ihr =>
        intro k R I hk hfk hR8 hC hB
        have hP := hC.1.2.2.2.1
        have hkn : k < P.1.2.1 := by omega
        rw [bB_explore_20, hR8, zrs, zob (xp_o hP.1), hP.2.2.1, if_neg (nI_ge hkn (by omega)), zob (xb_o hC.1.1), Ben_isLoaded_e hC.1.1 hC.1.2.2.2.2 (by omega), zci, bB_explore_38, hld k hfk (by omega)]
        cases el : bt T.2.2.1.2 k with
        | true =>
          rw [if_neg (by decide), bB_explore_96, nI_add]
          refine ihr (k + 1) R I (by omega) (by omega) hR8 hC (WB_iff hB (fun s => ?_))
          rw [Vis_no hm hfk el]
        | false =>
          rw [if_pos (by decide)]
          have hmk : m < 2 ^ k := Nat.lt_of_lt_of_le hm (Nat.pow_le_pow_right (by decide) hfk)
          have hmm : (m ||| 2 ^ k) < 2 ^ (k + 1) := Nat.or_lt_two_pow (Nat.lt_of_lt_of_le hmk (Nat.pow_le_pow_right (by decide) (by omega))) (Nat.pow_lt_pow_right (by decide) (by omega))
          have hmmn : (m ||| 2 ^ k) < 2 ^ P.1.2.1 := Nat.lt_of_lt_of_le hmm (Nat.pow_le_pow_right (by decide) (by omega))
          have hmm256 : (m ||| 2 ^ k) < 256 := Nat.lt_of_lt_of_le hmmn (Nat.pow_le_pow_right (by decide) h8)
          have hbit : ∀ j, (m ||| 2 ^ k).testBit j = (m.testBit j || decide (k = j)) := fun j => by rw [Nat.testBit_or, Nat.testBit_two_pow]
          have hmm0 : (m ||| 2 ^ k) ≠ 0 := fun z => by
            have := hbit k
            rw [z, Nat.zero_testBit] at this
            simp at this
          have hmml : ∀ j, (m ||| 2 ^ k).testBit j = true → bt T.2.2.1.2 j = false := fun j hj => by
            rw [hbit, Bool.or_eq_true, decide_eq_true_eq] at hj
            rcases hj with hj | hj
            · exact hml j hj
            · exact hj ▸ el
          have hWs : tLoad P W k = tLds P (sL P.1.2.1 (m ||| 2 ^ k)) T := by
            rw [sL_or hmk P.1.2.1 hkn, hW]
            unfold tLds
            rw [List.foldl_append]
            rfl
          have hW2 := tLoad_v (v := k) hV hC.2.1
          have hb := isB_e he8
          obtain ⟨K, M, N, J1, t1, t2, t3, t4, a2, a3, a4⟩ := B_trial (ρ := ρ) (c := c) (L := L) (D := D') he8 ha hC hkn (by omega)
          have hR1 : XR (107 + 18 * e) R (z2 R (107 + 18 * e) 0 (some p)) := fun q j hq => z2R (by omega)
          have hR8' : z2 R (107 + 18 * e) 0 (some p) 0 8 = some p := by rw [z2R (by omega)]; exact hR8
          have hcd : ∀ x, cdS P T x (m ||| 2 ^ k) ↔ (tLoad P W k).1.1.1.1 x = 3 := fun x => by
            rw [hWs]
            exact ⟨fun z => of_decide_eq_true z.2.2.2, fun z => ⟨by omega, hmmn, hmml, decide_eq_true z⟩⟩
          have hQ1 : ∀ s, (Q s ∨ Vis P T f m k s) → s < 256 ∧ s ≠ 0 := fun s hs => hs.elim (hQ s) (fun z => vis_nz hm z h8)
          obtain ⟨J2, b1, b2, b3⟩ := B_remember_l (ρ := ρ) (d := D' + 6) (c := c) (L := L) (T := T) (Q := fun s => Q s ∨ Vis P T f m k s) hR8' hmm256 hmm0 hQ1 hcd P.1.1 0 J1 (by omega) a2.1 hW2.1.1.1 (by omega) (fun x hx => by
            obtain ⟨o, o1, o2, o3⟩ := (WB_256 hB a4) x hx
            exact ⟨o, o1, fun b hb => ⟨Or.inl (o2 b hb).1, (o2 b hb).2⟩, fun s hs hc => o3 s (hs.elim id (fun z => by omega)) hc⟩)
          have hX2 : XQ (107 + 18 * e) J1 J2 := fun q _ hq => b2 q hq
          have hC2 : CI P (107 + 18 * e) p (tLoad P W k) (z2 R (107 + 18 * e) 0 (some p)) J2 := CI_x (lo := 251) a2 (by omega) (by omega) (fun q _ hq => b2 q hq) (XR.rf)
          obtain ⟨S, J3, d1, d2, d3, d4⟩ := ih (D' + 9) (e + 1) (k + 1) (m ||| 2 ^ k) (107 + 18 * e) (tLoad P W k) (z2 R (107 + 18 * e) 0 (some p)) J2 (fun s => (Q s ∨ Vis P T f m k s) ∨ s = (m ||| 2 ^ k)) (by omega) (by omega) (by omega) (by omega) hmm hmml (by omega) hR8' hC2 hWs (fun j hj1 hj2 => by
            rw [tLoad_ld hV hC.2.1, b_or, b_bit (by omega), decide_eq_false (by omega), Bool.or_false]
            exact hld j (by omega) hj2) (by
            have := hW2.2.1
            omega) (fun s hs => hs.elim (hQ1 s) (fun z => z ▸ ⟨hmm256, hmm0⟩)) b3
          have d2' : XR (107 + 18 * e) (z2 R (107 + 18 * e) 0 (some p)) S := d2.mo (by omega)
          have d3' : XQ (107 + 18 * e) J2 J3 := d3.mo (by omega)
          have hXR : XR (107 + 18 * e) R S := hR1.tr d2'
          have hXQ : XQ (107 + 18 * e) I J3 := a3.tr (hX2.tr d3')
          rw [zob (xb_o hb), t1, zcv, bB_explore_47, zob (xb_o hb), t2, zcv, bB_explore_52, zob (xb_o hb), t3, zcv, bB_explore_59, zob (xb_o hb), t4, zcv, bB_explore_64, nI_or (by omega), bB_rememberWanted_0, b1, zcv, bB_explore_76, nI_or (by omega), nI_add, nI_add, d1, zcv, bB_explore_96, nI_add]
          obtain ⟨S', J', f1, f2, f3, f4⟩ := ihr (k + 1) S J3 (by omega) (by omega) (by rw [hXR 0 8 (by omega)]; exact hR8) (CI_x hC ha (by omega) hXQ hXR) (WB_iff d4 (fun s => by
            have hv := Vis_s (s := s) hm hfk hkn hmn hml el
            constructor
            · rintro (((h | h) | h) | h)
              · exact Or.inl h
              · exact Or.inr (hv.mp (Or.inl (Or.inl h)))
              · exact Or.inr (hv.mp (Or.inl (Or.inr h)))
              · exact Or.inr (hv.mp (Or.inr h))
            · rintro (h | h)
              · exact Or.inl (Or.inl (Or.inl h))
              · rcases hv.mpr h with (h | h) | h
                · exact Or.inl (Or.inl (Or.inr h))
                · exact Or.inl (Or.inr h)
                · exact Or.inr h))
          exact ⟨S', J', f1, hXR.tr f2, hXQ.tr f3, f4⟩
    rw [bB_explore_0, if_pos (nI_lt he8 (by decide)), zidx_n he8 (by decide), fc_106 e he8, zrs]
    exact loop (P.1.2.1 - f) f R I (by omega) (Nat.le_refl _) hR8 hC (WB_iff hB (fun s => ⟨Or.inl, fun h => h.elim id (fun z => by
      obtain ⟨z1, j, hj, hd⟩ := z
      exact absurd (z1.1 j hj) hd)⟩))
end CWAN3
