-- THE TAPE: find
/-- what find answers -/
def pFnd (Q : QT) (n : Nat) (t : Nat → Nat) (v : Int32) : Int32 := if (slc t 0 n).all isLt = true ∧ 1 ≤ n ∧ n ≤ 7 then (if v = nI 0 then eO (fnd Q.2.2.2.2.1 Q.1.1 (slc t 0 n)) else if v = nI 1 then eO (fnd Q.2.2.2.2.2.2.1 Q.1.2.1 (slc t 0 n)) else if v = nI 2 then eO (fnd Q.2.2.2.2.2.2.2.2 Q.1.2.2 (slc t 0 n)) else -1) else -1
section FIND
variable {ρ : Nat × (Nat → Int32)} {d : Nat} {c : Nat × Nat} {R : Nat → Nat → Option Nat} {I J : Nat → Nat → Int32} {L : Nat → Nat → Int64} {n : Nat} {t : Nat → Nat} {Q : QT} {p sd : Nat} {P : PT}
theorem B_find_e (hN : QN Q) (h8 : R 0 8 = some p) (hp : isP p) (hc : RCc Q p I) (hn : RCn Q.1.1 Q.1.2.1 Q p L) (hT : TC n t I) (v : Int32) : EV ρ (d + 30) 216 0 [.ref 0, .int v, zU, zU] [] (mk c R I L) = some ([.int (pFnd Q n t v)], mk c R (z2 I 1 1 (nI 0)) L) := by
  have g1 := hN.1
  have g2 := hN.2.1
  have g3 := hN.2.2.1
  have hpg := isP_g hp
  rw [bB_find_0, hT.1, Tap_wordCode_e (d := d + 27) hT (Nat.zero_le _) (Nat.le_refl _), zcl, bB_find_15, bB_find_24]
  unfold pFnd
  by_cases c1 : (slc t 0 n).all isLt = true ∧ 1 ≤ n ∧ n ≤ 7
  · have hw : wrd (slc t 0 n) := ⟨fun x hx => List.all_eq_true.mp c1.1 x hx, by rw [slc_len]; omega, by rw [slc_len]; omega⟩
    rw [if_pos (show (slc t 0 n).all isLt = true ∧ n - 0 ≤ 7 from ⟨c1.1, by omega⟩), if_neg (fun z => c27_0 hw ((lg_cmp_eq _ _).mp z)), if_pos c1]
    by_cases v0 : v = nI 0
    · rw [if_pos v0, if_pos v0, h8, zrs, zob (xp_o hp), zrs, zob (xp_o hp), xp_F3 hp, zrs, z2_ne (by omega), hc.1, B_place_e (d := d + 28) (f := Q.2.2.2.2.1) (xp_a1 hp) (by decide) g1 (fun k hk => ⟨hn.1 k hk, hN.2.2.2.1 k hk⟩) hw, zci, bB_find_78]
    · rw [if_neg v0, if_neg v0]
      by_cases v1 : v = nI 1
      · rw [if_pos v1, if_pos v1, h8, zrs, zob (xp_o hp), zrs, zob (xp_o hp), xp_F4 hp, zrs, z2_ne (by omega), hc.2.1, B_place_e (d := d + 28) (f := Q.2.2.2.2.2.2.1) (xp_a2 hp) (by decide) g2 (fun k hk => ⟨hn.2.1 k hk, hN.2.2.2.2.1 k hk⟩) hw, zci, bB_find_97]
      · rw [if_neg v1, if_neg v1]
        by_cases v2 : v = nI 2
        · rw [if_pos v2, if_pos v2, h8, zrs, zob (xp_o hp), zrs, zob (xp_o hp), xp_F5 hp, zrs, z2_ne (by omega), hc.2.2, B_place_e (d := d + 28) (f := Q.2.2.2.2.2.2.2.2) (xp_a3 hp) (by decide) g3 (fun k hk => ⟨hn.2.2 k hk, hN.2.2.2.2.2 k hk⟩) hw, zci, bB_find_116]
        · rw [if_neg v2, if_neg v2]
  · rw [if_neg c1]
    have h0 : lg_cmp (if (slc t 0 n).all isLt = true ∧ n - 0 ≤ 7 then c27 (slc t 0 n) else lN 0) (lN 0) = 0 := by
      rw [lg_cmp_eq]
      by_cases c2 : (slc t 0 n).all isLt = true ∧ n - 0 ≤ 7
      · have : n = 0 := by
          have : ¬ 1 ≤ n := fun z => c1 ⟨c2.1, z, by omega⟩
          omega
        subst this
        rw [if_pos c2, slc_0]
        rfl
      · rw [if_neg c2]
    rw [if_pos h0]
theorem mf_loop {v : Int32} (hT : TP n t I) (h7 : n ≤ 7) : ∀ (j k : Nat), n - k = j → k ≤ n → (slc t 0 k).all isLt = true → EV ρ (d + 30) 35 47 [.ref 257, .int v, .long (c56 (slc t 0 k)), zU, .int (nI k)] [] (mk c R I L) = if (slc t 0 n).all isLt = true then EV ρ (d + 30) 35 47 [.ref 257, .int v, .long (c56 (slc t 0 n)), zU, .int (nI n)] [] (mk c R I L) else some ([.int (-1)], mk c R I L) := by
  intro j
  induction j with
  | zero =>
    intro k hj hk hl
    have e : k = n := by omega
    subst e
    rw [if_pos hl]
  | succ j ih =>
    intro k hj hk hl
    obtain ⟨t1, t2⟩ := hT.2.2 k (by omega)
    rw [bM_find_47, hT.1, if_neg (nI_ge (by omega) (by omega)), zidx_n (by omega) (by decide), t1, ← rb_n t2, M_isLetter_e (d := d + 28) (by omega), zci, bM_find_66]
    by_cases e : isLt (t k) = true
    · have hs : (slc t 0 (k + 1)).all isLt = true := by rw [all_s (Nat.zero_le _), hl, e]; rfl
      rw [e, if_neg (by decide), zidx_n (by omega) (by decide), t1, nI_l (by omega), lN_mul, lN_add, nI_add]
      have := ih (k + 1) (by omega) (by omega) hs
      unfold c56 at this ⊢
      rw [show cd 256 0 (slc t 0 (k + 1)) = 256 * cd 256 0 (slc t 0 k) + t k from by rw [slc_s t (Nat.zero_le _), cd_s]; rfl] at this
      exact this
    · have e' : isLt (t k) = false := by rw [Bool.eq_false_iff]; exact e
      rw [e', if_pos (by decide), if_neg]
      intro z
      exact e (List.all_eq_true.mp z _ (slc_in (Nat.zero_le _) (by omega)))
theorem M_find_e (hN : QN Q) (hs : sd ≤ 1) (h18 : I 257 18 = nI sd) (hR : RMc Q sd I) (hn : RMn Q sd L) (hT : TM n t I) (v : Int32) : ∃ J, EV ρ (d + 30) 35 0 [.ref 257, .int v, zU, zU, zU] [] (mk c R I L) = some ([.int (pFnd Q n t v)], mk c R J L) ∧ J 257 1 = nI 0 ∧ ∀ q j, ¬ (q = 257 ∧ (j = 1 ∨ j = 2 ∨ j = 21)) → J q j = I q j := by
  have g1 := hN.1
  have g2 := hN.2.1
  have g3 := hN.2.2.1
  obtain ⟨t1, t2, t3⟩ := hT
  rw [bM_find_0, bM_find_5, bM_find_13]
  have e1 : z2 I 257 2 (nI 0) 257 1 = nI n := by rw [z2a, if_neg (by omega)]; exact t1
  rw [e1]
  have e01 : z2 (z2 (z2 I 257 2 (nI 0)) 257 21 (nI n)) 257 1 (nI 0) 257 1 = nI 0 := by rw [z2_at]
  have eo : ∀ q j, ¬ (q = 257 ∧ (j = 1 ∨ j = 2 ∨ j = 21)) → z2 (z2 (z2 I 257 2 (nI 0)) 257 21 (nI n)) 257 1 (nI 0) q j = I q j := fun q j h => by rw [z2a, if_neg (by omega), z2a, if_neg (by omega), z2a, if_neg (by omega)]
  have hTP : TP n t (z2 (z2 (z2 I 257 2 (nI 0)) 257 21 (nI n)) 257 1 (nI 0)) := ⟨by rw [z2a, if_neg (by omega), z2_at], t2, fun i hi => by rw [eo _ _ (by omega)]; exact t3 i hi⟩
  generalize z2 (z2 (z2 I 257 2 (nI 0)) 257 21 (nI n)) 257 1 (nI 0) = I0 at e01 eo hTP
  refine ⟨I0, ?_, e01, eo⟩
  rw [bM_find_18, M_within_e (d := d + 28), zci, bM_find_24, hTP.1]
  unfold pFnd
  by_cases cv : ¬ v < nI 0 ∧ ¬ nI 2 < v
  · rw [decide_eq_true cv, if_neg (by decide), M_within_e (d := d + 28), zci, bM_find_37]
    by_cases cn : 1 ≤ n ∧ n ≤ 7
    · rw [decide_eq_true (show ¬ nI n < nI 1 ∧ ¬ nI 7 < nI n from ⟨nI_nlt cn.1 (by omega), nI_nlt cn.2 (by decide)⟩), if_neg (by decide), show lN 0 = c56 (slc t 0 0) from by rw [slc_0]; rfl, mf_loop hTP cn.2 n 0 rfl (Nat.zero_le _) (by rw [slc_0]; rfl)]
      by_cases cl : (slc t 0 n).all isLt = true
      · have hw : wrd (slc t 0 n) := ⟨fun x hx => List.all_eq_true.mp cl x hx, by rw [slc_len]; omega, by rw [slc_len]; omega⟩
        have h259 : I0 259 = I 259 := by funext j; exact eo _ _ (by omega)
        have h18' : I0 257 18 = nI sd := (eo _ _ (by omega)).trans h18
        rw [if_pos cl, if_pos ⟨cl, cn.1, cn.2⟩, bM_find_47, hTP.1, if_pos (nI_le (Nat.le_refl _) (by omega)), h18', pk_mul, pk_mul]
        by_cases v0 : v = nI 0
        · rw [if_pos (show v = 0 from v0.trans (by decide)), if_pos v0, bM_devices_0, h18', pk_mul, zidx_n (by omega) (by decide), h259, hR.1, zci, bM_find_112, M_found_e (d := d + 28) (q := 260) (N := 24) (f := Q.2.2.2.2.1) rfl (by decide) (by omega) (fun k hk => ⟨hn.1 k hk, hN.2.2.2.1 k hk⟩) hw, zci, bM_find_116]
        · rw [if_neg (show ¬ v = 0 from fun z => v0 (z.trans (by decide))), if_neg v0]
          by_cases v1 : v = nI 1
          · rw [if_pos v1, if_pos v1, bM_drivers_0, h18', pk_mul, nI_add, zidx_n (by omega) (by decide), h259, hR.2.1, zci, bM_find_138, M_found_e (d := d + 28) (q := 266) (N := 16) (f := Q.2.2.2.2.2.2.1) rfl (by decide) (by omega) (fun k hk => ⟨hn.2.1 k hk, hN.2.2.2.2.1 k hk⟩) hw, zci, bM_find_142, bM_find_165]
          · have v2 : v = nI 2 := by
              obtain ⟨u1, u2⟩ := cv
              obtain ⟨w1, w2⟩ := cl_nI (w := v) u1
              have u2' := Int32.not_lt.mp u2
              generalize v.toNatClampNeg = k at w1 w2
              subst w1
              have : k ≤ 2 := by rw [Int32.le_iff_toInt_le, nI_toInt w2, nI_toInt (by decide)] at u2'; omega
              have k0 : k ≠ 0 := fun z => v0 (by rw [z])
              have k1 : k ≠ 1 := fun z => v1 (by rw [z])
              rw [show k = 2 from by omega]
            rw [if_neg v1, if_neg v1, if_pos v2, bM_supplies_0, h18', pk_mul, nI_add, zidx_n (by omega) (by decide), h259, hR.2.2, zci, bM_find_161, M_found_e (d := d + 28) (q := 273) (N := 16) (f := Q.2.2.2.2.2.2.2.2) rfl (by decide) (by omega) (fun k hk => ⟨hn.2.2 k hk, hN.2.2.2.2.2 k hk⟩) hw, zci, bM_find_165]
      · rw [if_neg cl, if_neg (fun z => cl z.1)]
    · rw [decide_eq_false (show ¬ (¬ nI n < nI 1 ∧ ¬ nI 7 < nI n) from fun z => cn ⟨Nat.le_of_not_lt (fun g => z.1 (nI_lt g (by decide))), Nat.le_of_not_lt (fun g => z.2 (nI_lt g (by omega)))⟩), if_pos (by decide), if_neg (fun z => cn z.2)]
  · rw [decide_eq_false cv, if_pos (by decide)]
    have v0 : ¬ v = nI 0 := fun z => cv (by rw [z]; decide)
    have v1 : ¬ v = nI 1 := fun z => cv (by rw [z]; decide)
    have v2 : ¬ v = nI 2 := fun z => cv (by rw [z]; decide)
    rw [if_neg v0, if_neg v1, if_neg v2]
    by_cases c1 : (slc t 0 n).all isLt = true ∧ 1 ≤ n ∧ n ≤ 7
    · rw [if_pos c1]
    · rw [if_neg c1]
end FIND
