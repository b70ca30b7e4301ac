-- THE COMPONENT: wanted
section CWAN4
variable {ρ : Nat × (Nat → Int32)} {d : Nat} {c : Nat × Nat} {R S : Nat → Nat → Option Nat} {I J : Nat → Nat → Int32} {L : Nat → Nat → Int64} {P : PT} {p : Nat} {T : TT}
theorem Arr_fill_e {q n : Nat} (hq : oka q 20 n = true) (hn : n ≤ 2 ^ 20) (v : Int32) : ∃ J, EV ρ (d + 1) 234 0 [.ref q, .int v, zU, zU] [] (mk c R I L) = some ([], mk c R J L) ∧ (∀ j, j < n → J q j = v) ∧ ∀ k, k ≠ q → J k = I k := by
  obtain ⟨h1, h2⟩ := oka_20 hq
  have loop : ∀ (r k : Nat) (I : Nat → Nat → Int32), k + r = n → (∀ j, j < k → I q j = v) → ∃ J, EV ρ (d + 1) 234 5 [.ref q, .int v, .int (nI k), .int (nI n)] [] (mk c R I L) = some ([], mk c R J L) ∧ (∀ j, j < n → J q j = v) ∧ ∀ k, k ≠ q → J k = I k := by
    intro r
    induction r with
    | zero =>
      intro k I hk hI
      rw [bArr_fill_5, if_pos (nI_le (by omega) (by omega))]
      exact ⟨I, rfl, fun j hj => hI j (by omega), fun _ _ => rfl⟩
    | succ r ih =>
      intro k I hk hI
      rw [bArr_fill_5, if_neg (nI_ge (by omega) (by omega)), zar hq, zidx_n (by omega) (by omega), bArr_fill_14, nI_add]
      obtain ⟨J, j1, j2, j3⟩ := ih (k + 1) (z2 I q k v) (by omega) (fun j hj => by
        rw [z2a]
        by_cases e : j = k
        · rw [if_pos ⟨rfl, e⟩]
        · rw [if_neg (fun z => e z.2)]
          exact hI j (by omega))
      exact ⟨J, j1, j2, fun k hk => by rw [j3 k hk, z2_ne hk]⟩
  rw [bArr_fill_0, h1, cond_true, h2]
  exact loop n 0 I (by omega) (fun j hj => by omega)
/-- what is noted of those wanted -/
def WK (P : PT) (T : TT) (I : Nat → Nat → Int32) : Prop := I 0 7 = nI 0 ∨ (I 0 7 = nI 1 ∧ ∀ x, x < P.1.1 → I 256 x = oZ (wnt P T x))
theorem WB_wnt (h : WB P T (fun s => False ∨ Ext P T 0 0 s) I) : ∀ x, x < P.1.1 → I 256 x = oZ (wnt P T x) := fun x hx => by
  obtain ⟨o, o1, o2, o3⟩ := h x hx
  have hw : wnP P T x (2 ^ P.1.2.1) o := ⟨fun b hb => ⟨(o2 b hb).2.2.1, (o2 b hb).2⟩, fun s hs hc => o3 s (Or.inr ⟨fun j hj => by omega, fun e => by have := hc.1; omega, hs, hc.2.2.1⟩) hc⟩
  rw [o1, wnP_u hw (wnt_p P T x)]
theorem B_wanted_e (h : BX P p T R I) (hK : WK P T I) (hc : T.2.2.2.2 + 36 < 2 ^ 30) (v w : Int32) : ∃ S J, EV ρ (d + 30) 213 0 [.ref 0, .int v, .int w, zU] [] (mk c R I L) = some ([.int (pWan P T v w)], mk c S J L) ∧ RQ R S ∧ BX P p T S J ∧ WK P T J ∧ (∀ q, q ≠ 0 → ¬ (107 ≤ q ∧ q ≤ 256) → J q = I q) ∧ ∀ j, j ≠ 7 → J 0 j = I 0 j := by
  have hX := h
  obtain ⟨hR8, hCI⟩ := h
  have hV := hCI.1.2.1
  have hI := hCI.2.1
  have h12 := hV.1
  have h8 := hV.2.1
  have stay : ∀ r, r = pWan P T v w → ∃ S J, (some ([.int r], mk c R I L) : Option (List Value × Sg)) = some ([.int (pWan P T v w)], mk c S J L) ∧ RQ R S ∧ BX P p T S J ∧ WK P T J ∧ (∀ q, q ≠ 0 → ¬ (107 ≤ q ∧ q ≤ 256) → J q = I q) ∧ ∀ j, j ≠ 7 → J 0 j = I 0 j := fun r hr => ⟨R, I, by rw [hr], RQ.rf, hX, hK, fun _ _ _ => rfl, fun _ _ => rfl⟩
  rw [bB_wanted_0, B_wait hX, zci, bB_wanted_5]
  by_cases hi : inN v P.1.1 = true ∧ opn T v.toNatClampNeg = true
  · rw [show (inN v P.1.1 && opn T v.toNatClampNeg) = true from by rw [hi.1, hi.2]; rfl, if_neg (by decide)]
    by_cases w0 : w < 0
    · rw [if_pos w0]
      exact stay _ (by unfold pWan; rw [if_neg (fun z => by have := z.2; unfold inN at this; exact (of_decide_eq_true this).1 w0)])
    · have e12 : (w ≤ nI 1) ↔ ¬ nI 2 ≤ w := by
        rw [Int32.le_iff_toInt_le, Int32.le_iff_toInt_le, nI_toInt (by decide), nI_toInt (by decide)]
        omega
      rw [if_neg w0]
      by_cases w2 : w ≤ nI 1
      · have hw : inN w 2 = true := by unfold inN; exact decide_eq_true ⟨w0, e12.mp w2⟩
        obtain ⟨k, hk, rfl⟩ := (inN_iff (by decide)).mp hw
        obtain ⟨hi1, hi2⟩ := hi
        obtain ⟨x, hx, rfl⟩ := (inN_iff (by omega)).mp hi1
        have epw : pWan P T (nI x) (nI k) = wanA (wnt P T x) (nI k) := by unfold pWan; rw [if_pos ⟨⟨hi1, hi2⟩, hw⟩, nI_clamp (by omega)]
        -- the answer, once it is known
        have last : ∀ (S : Nat → Nat → Option Nat) (J : Nat → Nat → Int32), J 256 x = oZ (wnt P T x) → EV ρ (d + 30) 213 50 [.ref 0, .int (nI x), .int (nI k), zU] [] (mk c S J L) = some ([.int (pWan P T (nI x) (nI k))], mk c S J L) := fun S J hJ => by
          rw [bB_wanted_50, zidx_n (by omega) (by decide), hJ, epw]
          have hwp := wnt_p P T x
          cases eo : wnt P T x with
          | none => rw [if_pos (show oZ none = 0 from rfl)]; rfl
          | some b =>
            obtain ⟨b1, b2⟩ := hwp.1 b eo
            have hb256 : b < 256 := Nat.lt_of_lt_of_le b1 (Nat.pow_le_pow_right (by decide) h8)
            have hb1 := b2.1
            rw [show oZ (some b) = nI b from rfl, if_neg (by rw [nn1 (by omega)]; omega)]
            unfold wanA
            dsimp only
            by_cases k0 : k = 0
            · rw [k0, if_pos (show nI 0 = 0 from rfl), if_pos (show nI 0 = nI 0 from rfl), Int_bitCount_e (fun j hj => bt_8 hb256 hj), zci, bB_wanted_71, cb_8 hb256]
            · rw [if_neg (show ¬ nI k = 0 from by rw [nn1 (by omega)]; exact k0), if_neg (show ¬ nI k = nI 0 from by rw [nI_eq (by omega) (by decide)]; exact k0)]
        rw [if_pos w2]
        rcases hK with hK | ⟨hK1, hK2⟩
        · obtain ⟨K, f1, f2, f3⟩ := Arr_fill_e (ρ := ρ) (d := d + 28) (c := c) (R := R) (I := I) (L := L) (q := 256) (n := 12) rfl (by decide) (nI 0)
          have hXK : XQ 107 I K := fun q _ hq => f3 q hq
          have hCK := CI_x hCI (by decide) (by decide) hXK XR.rf
          obtain ⟨S, J, j1, j2, j3, j4⟩ := B_explore_l (ρ := ρ) (c := c) (L := L) (T := T) (p := p) hV 8 (d + 29) 0 0 0 86 T R K (fun _ => False) (by decide) (by omega) (by decide) (by omega) (by decide) (fun j hj => by rw [Nat.zero_testBit] at hj; cases hj) (by decide) hR8 hCK (by
            have : sL P.1.2.1 0 = [] := by unfold sL; rw [List.filter_eq_nil_iff]; intro j _; rw [Nat.zero_testBit]; decide
            rw [this]
            rfl) (fun _ _ _ => rfl) (by omega) (fun s hs => hs.elim) (fun y hy => ⟨none, by rw [f2 y (by omega)]; rfl, fun b hb => (by cases hb), fun s hs => hs.elim⟩)
          have hXJ : XQ 107 I J := hXK.tr j3
          have hCJ := CI_x hCI (by decide) (by decide) hXJ j2
          have hwn := WB_wnt j4
          rw [if_pos (by rw [hK]; rfl), f1, zcv, bB_wanted_34, j1, zcv, bB_wanted_45, last S _ (by rw [z2_ne (by decide)]; exact hwn x hx)]
          refine ⟨S, _, rfl, j2, ⟨by rw [j2 0 8 (by omega)]; exact hR8, CI_07 hCJ _⟩, Or.inr ⟨z2_at _ _ _ _, fun y hy => by rw [z2_ne (by decide)]; exact hwn y hy⟩, fun q hq0 hq => by rw [z2_ne hq0, hXJ q (by omega) (by omega)], fun j hj => by rw [z2a, if_neg (fun z => hj z.2), hXJ 0 (by omega) (by omega)]⟩
        · rw [if_neg (by rw [hK1]; decide), last R I (hK2 x hx)]
          exact ⟨R, I, rfl, RQ.rf, hX, Or.inr ⟨hK1, hK2⟩, fun _ _ _ => rfl, fun _ _ => rfl⟩
      · rw [if_neg w2]
        exact stay _ (by unfold pWan; rw [if_neg (fun z => by have := z.2; unfold inN at this; exact w2 (e12.mpr (of_decide_eq_true this).2))])
  · rw [show (inN v P.1.1 && opn T v.toNatClampNeg) = false from by
      cases e1 : inN v P.1.1 with
      | false => rfl
      | true =>
        cases e2 : opn T v.toNatClampNeg with
        | false => rfl
        | true => exact absurd ⟨e1, e2⟩ hi, if_pos (by decide)]
    exact stay _ (by unfold pWan; rw [if_neg (fun z => hi z.1)])
end CWAN4
