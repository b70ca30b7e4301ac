-- THE TAPE: feed
theorem l_s : ∀ n, n < 64 → (((nI n).toInt64 &&& 63).toBitVec.smod 64).toNat = n := by decide +kernel
theorem l_u : ∀ n, n < 64 → (((nI n).toInt64.toUInt64 &&& Int64.toUInt64 63).toBitVec % 64).toNat = n := by decide +kernel
/-- the byte k of eight -/
def byt (w : Int64) (k : Nat) : Nat := ((w >>> ((nI (56 - 8 * k)).toInt64 &&& 63)).toInt32).toBitVec.toNat % 256
theorem byt_lt (w : Int64) (k : Nat) : byt w k < 256 := Nat.mod_lt _ (by decide)
theorem bt_nI {m i : Nat} (hi : i < 32) : bt (nI m) i = m.testBit i := by
  show (BitVec.ofNat 32 m).getLsbD i = _
  rw [BitVec.getLsbD_ofNat, decide_eq_true hi, Bool.true_and]
theorem byt_r (w : Int64) (k : Nat) : ((w >>> ((nI (56 - 8 * k)).toInt64 &&& 63)).toInt32) &&& nI 255 = nI (byt w k) := by
  unfold byt
  generalize (w >>> ((nI (56 - 8 * k)).toInt64 &&& 63)).toInt32 = x
  refine b_ext (fun i hi => ?_)
  rw [b_and, show nI 255 = 255 from rfl, b_255, bt_nI hi, show 256 = 2 ^ 8 from rfl, Nat.testBit_mod_two_pow, Bool.and_comm]
  rfl
theorem by_s (w : Int64) {n i : Nat} (hn : n ≤ 56) (hi : i < 8) : ((w >>> ((nI n).toInt64 &&& 63)).toInt32).toBitVec.getLsbD i = w.toBitVec.getLsbD (n + i) := by
  rw [Int64.toBitVec_toInt32, BitVec.getLsbD_signExtend, decide_eq_true (by omega), Bool.true_and, if_pos (show i < 64 by omega), Int64.toBitVec_shiftRight]
  show (w.toBitVec.sshiftRight (((nI n).toInt64 &&& 63).toBitVec.smod 64).toNat).getLsbD i = _
  rw [l_s n (by omega), BitVec.getLsbD_sshiftRight]
  rw [decide_eq_false (show ¬ 64 ≤ i by omega), if_pos (show n + i < 64 by omega)]
  rfl
theorem by_u (w : Int64) {n i : Nat} (hn : n ≤ 56) (hi : i < 8) : (((w.toUInt64 >>> ((nI n).toInt64.toUInt64 &&& Int64.toUInt64 63)).toInt64).toInt32).toBitVec.getLsbD i = w.toBitVec.getLsbD (n + i) := by
  rw [Int64.toBitVec_toInt32, BitVec.getLsbD_signExtend, decide_eq_true (by omega), Bool.true_and, if_pos (show i < 64 by omega)]
  show (w.toUInt64 >>> ((nI n).toInt64.toUInt64 &&& Int64.toUInt64 63)).toBitVec.getLsbD i = _
  rw [UInt64.toBitVec_shiftRight]
  show (w.toUInt64.toBitVec >>> (((nI n).toInt64.toUInt64 &&& Int64.toUInt64 63).toBitVec % 64).toNat).getLsbD i = _
  rw [l_u n (by omega), BitVec.getLsbD_ushiftRight]
  rfl
theorem byt_c (w : Int64) (k : Nat) : (((((w.toUInt64 >>> ((nI (56 - 8 * k)).toInt64.toUInt64 &&& Int64.toUInt64 63)).toInt64).toInt32).toInt8.toInt32).toInt8.toInt32) = sb (byt w k) := by
  unfold sb
  congr 1
  rw [Int8.toInt8_toInt32]
  refine Int8.toBitVec_inj.mp (BitVec.eq_of_getLsbD_eq (fun i hi => ?_))
  rw [Int32.toBitVec_toInt8, Int32.toBitVec_toInt8, BitVec.getLsbD_signExtend, BitVec.getLsbD_signExtend, if_pos (show i < 32 by omega), if_pos (show i < 32 by omega), by_u w (by omega) hi]
  congr 1
  show _ = bt (nI (byt w k)) i
  rw [bt_nI (by omega)]
  unfold byt
  rw [show 256 = 2 ^ 8 from rfl, Nat.testBit_mod_two_pow, decide_eq_true hi, Bool.true_and]
  exact (by_s w (by omega) hi).symm
/-- the tape with k bytes of w behind n -/
def tK (t : Nat → Nat) (n : Nat) (w : Int64) (k : Nat) : Nat → Nat := fun j => if n ≤ j ∧ j < n + k then byt w (j - n) else t j
theorem tK_at (t : Nat → Nat) (n : Nat) (w : Int64) (k : Nat) : tK t n w (k + 1) (n + k) = byt w k := by
  unfold tK
  rw [if_pos (by omega), show n + k - n = k from by omega]
theorem tK_o (t : Nat → Nat) (n : Nat) (w : Int64) {k j : Nat} (h : j ≠ n + k) : tK t n w (k + 1) j = tK t n w k j := by
  unfold tK
  by_cases h1 : n ≤ j ∧ j < n + k
  · rw [if_pos h1, if_pos (by omega)]
  · rw [if_neg h1, if_neg (by omega)]
theorem tK_0 (t : Nat → Nat) (n : Nat) (w : Int64) : tK t n w 0 = t := by
  funext j
  unfold tK
  rw [if_neg (by omega)]
def vK (k : Nat) : Int32 := nI 56 - nI (8 * k)
theorem vK_n : ∀ k, k < 8 → vK k = nI (56 - 8 * k) ∧ vK k + -8 = vK (k + 1) ∧ ¬ vK k < 0 := by decide +kernel
section FEED
variable {ρ : Nat × (Nat → Int32)} {d : Nat} {c : Nat × Nat} {R : Nat → Nat → Option Nat} {I J : Nat → Nat → Int32} {L : Nat → Nat → Int64} {n : Nat} {t : Nat → Nat} {w : Int64}
theorem M_eight_e (hT : TM n t I) (h8 : n + 8 ≤ 648) : ∃ J, EV ρ (d + 1) 11 0 [.ref 257, .long w, zU, zU] [] (mk c R I L) = some ([], mk c R J L) ∧ TM (n + 8) (tK t n w 8) J ∧ ∀ q j, ¬ (q = 257 ∧ j = 1) → q ≠ 258 → J q j = I q j := by
  have loop : ∀ (j k : Nat) (I : Nat → Nat → Int32), 8 - k = j → k ≤ 8 → TM (n + k) (tK t n w k) I → ∃ J, EV ρ (d + 1) 11 3 [.ref 257, .long w, zU, .int (vK k)] [] (mk c R I L) = some ([], mk c R J L) ∧ TM (n + 8) (tK t n w 8) J ∧ ∀ q j, ¬ (q = 257 ∧ j = 1) → q ≠ 258 → J q j = I q j := by
    intro j
    induction j with
    | zero =>
      intro k I hj hk hT
      have e : k = 8 := by omega
      subst e
      rw [bM_eight_3, if_pos (by decide)]
      exact ⟨I, rfl, hT, fun _ _ _ _ => rfl⟩
    | succ j ih =>
      intro k I hj hk hT
      obtain ⟨e1, e2, e3⟩ := vK_n k (by omega)
      rw [bM_eight_3, if_neg e3, hT.1, zidx_n (by omega) (by decide), bM_eight_24, z2_ne (by decide), hT.1, nI_add, bM_eight_34, e2, e1, byt_r]
      obtain ⟨J, g1, g2, g3⟩ := ih (k + 1) (z2 (z2 I 258 (n + k) (nI (byt w k))) 257 1 (nI (n + k + 1))) (by omega) (by omega) ⟨by rw [z2_at]; rfl, by omega, fun i hi => by
        rw [z2_ne (by decide)]
        by_cases ei : i = n + k
        · rw [ei, z2_at, tK_at]; exact ⟨rfl, byt_lt w k⟩
        · rw [z2a, if_neg (by omega), tK_o t n w ei]; exact hT.2.2 i (by omega)⟩
      exact ⟨J, g1, g2, fun q j y1 y2 => by rw [g3 q j y1 y2, z2a, if_neg y1, z2_ne y2]⟩
  rw [bM_eight_0, show nI 56 = vK 0 from by decide]
  exact loop 8 0 I rfl (by decide) (by rw [tK_0]; exact hT)
theorem Tap_push_e (hT : TC n t I) (h8 : n + 8 ≤ 648) : ∃ J, EV ρ (d + 1) 120 0 [.ref 1, .long w, zU, zU] [] (mk c R I L) = some ([], mk c R J L) ∧ TC (n + 8) (tK t n w 8) J ∧ ∀ q j, ¬ (q = 1 ∧ j = 1) → q ≠ 2 → J q j = I q j := by
  have loop : ∀ (j k : Nat) (I : Nat → Nat → Int32), 8 - k = j → k ≤ 8 → TC (n + k) (tK t n w k) I → ∃ J, EV ρ (d + 1) 120 3 [.ref 1, .long w, zU, .int (vK k)] [] (mk c R I L) = some ([], mk c R J L) ∧ TC (n + 8) (tK t n w 8) J ∧ ∀ q j, ¬ (q = 1 ∧ j = 1) → q ≠ 2 → J q j = I q j := by
    intro j
    induction j with
    | zero =>
      intro k I hj hk hT
      have e : k = 8 := by omega
      subst e
      rw [bTap_push_3, if_pos (by decide)]
      exact ⟨I, rfl, hT, fun _ _ _ _ => rfl⟩
    | succ j ih =>
      intro k I hj hk hT
      obtain ⟨e1, e2, e3⟩ := vK_n k (by omega)
      rw [bTap_push_3, if_neg e3, hT.1, if_neg (nI_ge (by omega) (by decide)), zidx_n (by omega) (by decide), bTap_push_31, z2_ne (by decide), hT.1, nI_add, bTap_push_41, e2, e1, byt_c]
      obtain ⟨J, g1, g2, g3⟩ := ih (k + 1) (z2 (z2 I 2 (n + k) (sb (byt w k))) 1 1 (nI (n + k + 1))) (by omega) (by omega) ⟨by rw [z2_at]; rfl, by omega, fun i hi => by
        rw [z2_ne (by decide)]
        by_cases ei : i = n + k
        · rw [ei, z2_at, tK_at]; exact ⟨rfl, byt_lt w k⟩
        · rw [z2a, if_neg (by omega), tK_o t n w ei]; exact hT.2.2 i (by omega)⟩
      exact ⟨J, g1, g2, fun q j y1 y2 => by rw [g3 q j y1 y2, z2a, if_neg y1, z2_ne y2]⟩
  rw [bTap_push_0, show nI 56 = vK 0 from by decide]
  exact loop 8 0 I rfl (by decide) (by rw [tK_0]; exact hT)
/-- what feed does to the tape -/
def pFeed (n : Nat) (t : Nat → Nat) (u v w : Int64) : Int32 × Nat × (Nat → Nat) := if n + 24 ≤ 648 then (nI (n + 24), n + 24, tK (tK (tK t n u 8) (n + 8) v 8) (n + 16) w 8) else (-1, n, t)
theorem M_feed_e {u v w : Int64} (hT : TM n t I) : ∃ J, EV ρ (d + 30) 12 0 [.ref 257, .long u, zU, .long v, zU, .long w, zU] [] (mk c R I L) = some ([.int (pFeed n t u v w).1], mk c R J L) ∧ TM (pFeed n t u v w).2.1 (pFeed n t u v w).2.2 J ∧ ∀ q j, ¬ (q = 257 ∧ (j = 1 ∨ j = 2)) → q ≠ 258 → J q j = I q j := by
  have hT0 : TM n t (z2 I 257 2 (nI 0)) := ⟨by rw [z2a, if_neg (by omega)]; exact hT.1, hT.2.1, fun i hi => by rw [z2_ne (by decide)]; exact hT.2.2 i hi⟩
  rw [bM_feed_0, bM_feed_5, hT0.1, nI_add]
  unfold pFeed
  by_cases c1 : n + 24 ≤ 648
  · simp only [if_pos c1]
    obtain ⟨J1, a1, a2, a3⟩ := M_eight_e (ρ := ρ) (d := d + 28) (c := c) (R := R) (L := L) (w := u) hT0 (by omega)
    obtain ⟨J2, b1, b2, b3⟩ := M_eight_e (ρ := ρ) (d := d + 28) (c := c) (R := R) (L := L) (w := v) a2 (by omega)
    obtain ⟨J3, c1', c2, c3⟩ := M_eight_e (ρ := ρ) (d := d + 28) (c := c) (R := R) (L := L) (w := w) b2 (by omega)
    rw [if_pos (nI_le c1 (by decide)), a1, zcv, bM_feed_25, b1, zcv, bM_feed_30, c1', zcv, bM_feed_36, c2.1]
    exact ⟨J3, rfl, c2, fun q j y1 y2 => by rw [c3 q j (by omega) y2, b3 q j (by omega) y2, a3 q j (by omega) y2, z2a, if_neg (by omega)]⟩
  · simp only [if_neg c1]
    rw [if_neg (nI_ge (by omega) (by have := hT.2.1; omega))]
    exact ⟨_, rfl, hT0, fun q j y1 y2 => by rw [z2a, if_neg (by omega)]⟩
theorem B_feed_e {u v w : Int64} (hT : TC n t I) : ∃ J, EV ρ (d + 30) 193 0 [.ref 0, .long u, zU, .long v, zU, .long w, zU] [] (mk c R I L) = some ([.int (pFeed n t u v w).1], mk c R J L) ∧ TC (pFeed n t u v w).2.1 (pFeed n t u v w).2.2 J ∧ ∀ q j, ¬ (q = 1 ∧ j = 1) → q ≠ 2 → J q j = I q j := by
  rw [bB_feed_0, hT.1, nI_add]
  unfold pFeed
  by_cases c1 : n + 24 ≤ 648
  · simp only [if_pos c1]
    obtain ⟨J1, a1, a2, a3⟩ := Tap_push_e (ρ := ρ) (d := d + 28) (c := c) (R := R) (L := L) (w := u) hT (by omega)
    obtain ⟨J2, b1, b2, b3⟩ := Tap_push_e (ρ := ρ) (d := d + 28) (c := c) (R := R) (L := L) (w := v) a2 (by omega)
    obtain ⟨J3, c1', c2, c3⟩ := Tap_push_e (ρ := ρ) (d := d + 28) (c := c) (R := R) (L := L) (w := w) b2 (by omega)
    rw [if_pos (nI_le c1 (by decide)), a1, zcv, bB_feed_26, b1, zcv, bB_feed_34, c1', zcv, bB_feed_43, c2.1]
    exact ⟨J3, rfl, c2, fun q j y1 y2 => by rw [c3 q j y1 y2, b3 q j y1 y2, a3 q j y1 y2]⟩
  · simp only [if_neg c1]
    rw [if_neg (nI_ge (by omega) (by have := hT.2.1; omega))]
    exact ⟨I, rfl, hT, fun _ _ _ _ => rfl⟩
end FEED
