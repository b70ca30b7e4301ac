-- THE COMPONENT READS: parents, needs, numbers
/-- a fault e is noted -/
def FSd (e : Nat) (I : Nat → Nat → Int32) : Prop := I 3 7 = nI e ∧ 1 ≤ e ∧ e ≤ 5188
theorem ySup_er {Q : QT} {K : Tk} {e : Nat} (h : ySup Q K = .error e) : ∃ y, 1 ≤ y ∧ y ≤ 4 ∧ e = er K y := by
  unfold ySup at h
  split at h
  · cases e1 : fnd Q.2.2.2.2.2.2.2.2 Q.1.2.2 K.2.2.2 with
    | some z => rw [e1] at h; cases h
    | none =>
      rw [e1] at h
      simp only at h
      split at h
      · cases h
      · cases h; exact ⟨4, by decide, by decide, rfl⟩
  · cases h; exact ⟨1, by decide, by decide, rfl⟩
theorem yNew_er {Q : QT} {K : Tk} {e : Nat} (h : yNew Q K = some e) : ∃ y, 1 ≤ y ∧ y ≤ 4 ∧ e = er K y := by
  unfold yNew at h
  split at h
  · split at h
    · cases h
    · cases h; exact ⟨3, by decide, by decide, rfl⟩
  · cases h; exact ⟨1, by decide, by decide, rfl⟩
section CREAD2
variable {ρ : Nat × (Nat → Int32)} {d : Nat} {c : Nat × Nat} {R R' : Nat → Nat → Option Nat} {I J : Nat → Nat → Int32} {L L' : Nat → Nat → Int64} {n : Nat} {t : Nat → Nat} {p m u : Nat} {Q : QT} {K : Tk} {e : Nat}
theorem FSd_i (hK : TkI n t K) (hn : n ≤ 648) (h : ∃ y, 1 ≤ y ∧ y ≤ 4 ∧ e = er K y) : FSd e (z2 I 3 7 (nI e)) := by
  obtain ⟨y, h1, h2, h3⟩ := h
  have := hK.2.1
  refine ⟨z2_at _ _ _ _, ?_, ?_⟩ <;> (rw [h3]; unfold er; omega)
theorem RC_pa {y : Nat} (hp : isP p) (hd : Q.1.1 < 12) (h : RC n t m u Q p R I L) : RC n t m u (q_pa Q (va_up Q.2.1 Q.1.1 (some y))) p R (z2 (z2 I (p + 4) Q.1.1 (nI y)) (p + 5) Q.1.1 (nI 1 <<< (nI y &&& 31))) L := by
  have := isP_g hp
  obtain ⟨h1, h2, h3, h4, h5, h6, h7, h8⟩ := h
  refine ⟨?_, h2, ?_, fun x hx => ?_, ?_, ?_, ?_, ?_⟩
  · unfold RCc at h1 ⊢; rw [z2_ne (by omega), z2_ne (by omega)]; exact h1
  · unfold RCi at h3 ⊢; rw [z2_ne (by omega), z2_ne (by omega), z2_ne (by omega), z2_ne (by omega)]; exact h3
  · show _ = eO (va_up Q.2.1 Q.1.1 (some y) x) ∧ _ = pbit (va_up Q.2.1 Q.1.1 (some y) x)
    by_cases ex : x = Q.1.1
    · rw [ex, va_up_self, z2_ne (by omega), z2_at, z2_at]; exact ⟨rfl, rfl⟩
    · rw [va_up_ne _ _ ex, z2_ne (by omega), z2a, if_neg (by omega), z2a, if_neg (by omega), z2_ne (by omega)]; exact h4 x hx
  · unfold RCe at h5 ⊢; rw [z2_ne (by omega), z2_ne (by omega), z2_ne (by omega), z2_ne (by omega), z2_ne (by omega), z2_ne (by omega)]; exact h5
  · unfold RCt at h6 ⊢; rw [z2_ne (by omega), z2_ne (by omega), z2_ne (by omega), z2_ne (by omega), z2_ne (by omega), z2_ne (by omega)]; exact h6
  · unfold RCs at h7 ⊢; rw [z2_ne (by omega), z2_ne (by omega), z2_ne (by omega), z2_ne (by omega), z2_ne (by omega), z2_ne (by omega), z2_ne (by omega), z2_ne (by omega)]; exact h7
  · unfold RCr at h8 ⊢; rw [z2_ne (by omega), z2_ne (by omega)]; exact h8
theorem bitsL_s (l : List Nat) (z : Nat) : bitsL (l ++ [z]) = bitsL l ||| (nI 1 <<< (nI z &&& 31)) := by
  unfold bitsL
  rw [List.foldl_append]
  rfl
theorem ofk_s (k : Nat) (l : List (Nat × Nat)) (z : Nat × Nat) : ofk k (l ++ [z]) = if z.1 = k then ofk k l ++ [z.2] else ofk k l := by
  unfold ofk
  rw [List.filter_append, List.map_append]
  by_cases h : z.1 = k
  · rw [if_pos h, List.filter_cons_of_pos (by simpa using h)]; rfl
  · rw [if_neg h, List.filter_cons_of_neg (by simpa using h)]; simp
theorem RC_need {s : Nat} (hp : isP p) (hd : Q.1.1 < 12) (hB : QB Q) (hl : (Q.2.2.1 Q.1.1).length < 3) (h : RC n t m u Q p R I L) : RC n t m u (q_ne Q (va_up Q.2.2.1 Q.1.1 (Q.2.2.1 Q.1.1 ++ [s]))) p R (z2 (z2 (z2 I (p + 7) (3 * Q.1.1 + (Q.2.2.1 Q.1.1).length) (nI s)) (p + 6) Q.1.1 (nI ((Q.2.2.1 Q.1.1).length + 1))) (p + 8) Q.1.1 (bitsL (Q.2.2.1 Q.1.1) ||| (nI 1 <<< (nI s &&& 31)))) L := by
  have := isP_g hp
  obtain ⟨h1, h2, h3, h4, h5, h6, h7, h8⟩ := h
  refine ⟨?_, h2, ?_, ?_, fun x hx => ?_, ?_, ?_, ?_⟩
  · unfold RCc at h1 ⊢; rw [z2_ne (by omega), z2_ne (by omega), z2_ne (by omega)]; exact h1
  · unfold RCi at h3 ⊢; rw [z2_ne (by omega), z2_ne (by omega), z2_ne (by omega), z2_ne (by omega), z2_ne (by omega), z2_ne (by omega)]; exact h3
  · unfold RCp at h4 ⊢; rw [z2_ne (by omega), z2_ne (by omega), z2_ne (by omega), z2_ne (by omega), z2_ne (by omega), z2_ne (by omega)]; exact h4
  · obtain ⟨g1, g2, g3⟩ := h5 x hx
    show _ = nI (va_up Q.2.2.1 Q.1.1 (Q.2.2.1 Q.1.1 ++ [s]) x).length ∧ (∀ k z, (va_up Q.2.2.1 Q.1.1 (Q.2.2.1 Q.1.1 ++ [s]) x)[k]? = some z → _) ∧ _ = bitsL (va_up Q.2.2.1 Q.1.1 (Q.2.2.1 Q.1.1 ++ [s]) x)
    by_cases ex : x = Q.1.1
    · subst ex
      rw [va_up_self, z2_ne (by omega), z2_at, z2_at, bitsL_s]
      refine ⟨by rw [List.length_append]; rfl, fun k z hz => ?_, rfl⟩
      rw [z2_ne (by omega), z2_ne (by omega)]
      rcases ap_at hz with g | ⟨g, g'⟩
      · have := (List.getElem?_eq_some_iff.mp g).1
        rw [z2a, if_neg (by omega)]; exact g2 k z g
      · rw [g, g', z2_at]
    · rw [va_up_ne _ _ ex]
      refine ⟨?_, fun k z hz => ?_, ?_⟩
      · rw [z2_ne (by omega), z2a, if_neg (by omega), z2_ne (by omega)]; exact g1
      · have hk := (List.getElem?_eq_some_iff.mp hz).1
        have := (hB.2.1 x).1
        rw [z2_ne (by omega), z2_ne (by omega), z2a, if_neg (by omega)]
        exact g2 k z hz
      · rw [z2a, if_neg (by omega), z2_ne (by omega), z2_ne (by omega)]; exact g3
  · unfold RCt at h6 ⊢; rw [z2_ne (by omega), z2_ne (by omega), z2_ne (by omega), z2_ne (by omega), z2_ne (by omega), z2_ne (by omega), z2_ne (by omega), z2_ne (by omega), z2_ne (by omega)]; exact h6
  · unfold RCs at h7 ⊢; rw [z2_ne (by omega), z2_ne (by omega), z2_ne (by omega), z2_ne (by omega), z2_ne (by omega), z2_ne (by omega), z2_ne (by omega), z2_ne (by omega), z2_ne (by omega), z2_ne (by omega), z2_ne (by omega), z2_ne (by omega)]; exact h7
  · unfold RCr at h8 ⊢; rw [z2_ne (by omega), z2_ne (by omega), z2_ne (by omega)]; exact h8
theorem Pla_parent_e {y x : Nat} (hp : isP p) (hx : x < 12) : EV ρ (d + 1) 129 0 [.ref p, .int (nI x), .int (nI y)] [] (mk c R I L) = some ([], mk c R (z2 (z2 I (p + 4) x (nI y)) (p + 5) x (nI 1 <<< (nI y &&& 31))) L) := by
  rw [bPla_putParent_0, zob (xp_o hp), xp_F6 hp, zrs, zar (xp_a4 hp), zidx_n hx (by decide), bPla_putParent_7, zob (xp_o hp), xp_F7 hp, zrs, zar (xp_a5 hp), zidx_n hx (by decide), bPla_putParent_16]
theorem Pla_need_e {s : Nat} (hp : isP p) (hd : Q.1.1 < 12) (hl : (Q.2.2.1 Q.1.1).length < 3) (h : RCe Q p I) : EV ρ (d + 1) 130 0 [.ref p, .int (nI Q.1.1), .int (nI s)] [] (mk c R I L) = some ([], mk c R (z2 (z2 (z2 I (p + 7) (3 * Q.1.1 + (Q.2.2.1 Q.1.1).length) (nI s)) (p + 6) Q.1.1 (nI ((Q.2.2.1 Q.1.1).length + 1))) (p + 8) Q.1.1 (bitsL (Q.2.2.1 Q.1.1) ||| (nI 1 <<< (nI s &&& 31)))) L) := by
  have := isP_g hp
  obtain ⟨g1, g2, g3⟩ := h Q.1.1 hd
  rw [bPla_putNeed_0, zob (xp_o hp), zob (xp_o hp), xp_F8 hp, zrs, zar (xp_a6 hp), zidx_n hd (by decide), xp_F9 hp, zrs, g1, pk_mul, nI_add, zar (xp_a7 hp), zidx_n (by omega) (by decide), bPla_putNeed_16, zob (xp_o hp), xp_F8 hp, zrs, zar (xp_a6 hp), zidx_n hd (by decide), zar (xp_a6 hp), zidx_n hd (by decide), z2_ne (by omega), g1, nI_add, bPla_putNeed_26, zob (xp_o hp), xp_F10 hp, zrs, zar (xp_a8 hp), zidx_n hd (by decide), zar (xp_a8 hp), zidx_n hd (by decide), z2_ne (by omega), z2_ne (by omega), g3, bPla_putNeed_38, Nat.mul_comm]
theorem C_key (h : TkC K R I L) : ∀ (f : Option Nat → Rs), znuk (zr (R 3 6)) f = f (R 3 6) := fun f => by
    rw [h.2.2.2.1]
    split
    · cases e1 : kwi K.2.2.2 with
      | none => rfl
      | some z =>
        have := kwi_lt e1
        exact zrk (q := 1000 + z) (by omega) (by omega)
    · rfl
theorem C_kw (h : TkC K R I L) {i : Nat} (hi : i < 10) : R 3 6 = some (1000 + i) ↔ kW i K = true := by
  rw [h.2.2.2.1, kW_i]
  by_cases c1 : K.1 = 1
  · rw [if_pos c1]
    constructor
    · intro h
      refine ⟨c1, (kwi_i hi).mp ?_⟩
      cases e1 : kwi K.2.2.2 with
      | none => rw [e1] at h; cases h
      | some z => rw [e1] at h; have h' : some (1000 + z) = some (1000 + i) := h; injection h' with h'; congr 1; omega
    · intro h
      rw [(kwi_i hi).mpr h.2]; rfl
  · rw [if_neg c1]
    exact ⟨fun h => (by cases h), fun h => absurd h.1 c1⟩
/-- the parent -/
theorem Par_parent_e (hK : TkI n t K) (hN : QN Q) (hd : Q.1.1 < 12) (hm : Q.1.1 ≤ m) (h : CS n t m u Q p K R I L) : ∃ R' J L', EV ρ (d + 5) 138 0 [.ref 3, .int (nI Q.1.1), zU] [] (mk c R I L) = some ([.int (match yPar n t Q K with
      | .ok _ => nI 1
      | .error _ => nI 0)], mk c R' J L') ∧ CF p I J ∧ CF p R R' ∧ CF p L L' ∧ (match yPar n t Q K with
      | .ok (Q', K') => CS n t m u Q' p K' R' J L'
      | .error e => FSd e J) := by
  obtain ⟨a1, a2, a3, a4, a5, a6⟩ := id h
  have hn := a1.2.1
  have hpg := isP_g a2
  rw [bPar_readParent_0, C_key a5]
  unfold yPar
  by_cases c1 : kW 2 K = true
  · have k1 := nxK_i hK
    simp only [if_pos c1]
    rw [if_pos ((C_kw a5 (i := 2) (by decide)).mpr c1)]
    obtain ⟨R1, J1, L1, b1, b2, b3, b4, b5⟩ := CS_step (ρ := ρ) (d := d) (c := c) hK h
    obtain ⟨g1, g2, g3, g4, g5, g6⟩ := id b2
    rw [b1, zcv, bPar_readParent_16, Par_plain_e (d := d + 3) k1 g5, zci, bPar_readParent_20]
    by_cases c2 : fre (nxK n t K) = true
    · have hk2 := (fre_i c2).1
      simp only [if_pos c2]
      rw [c2, if_neg (by decide), g3, zrs, zob (xp_o a2), zrs, zob (xp_o a2), xp_F3 a2, zrs, g6.1.1, g5.2.2.2.2 hk2, B_place_e (d := d + 3) (f := Q.2.2.2.2.1) (xp_a1 a2) (by decide) (by omega) (fun k hk => ⟨g6.2.1.1 k (by omega), hN.2.2.2.1 k hk⟩) (k1.2.2.2.2.1 hk2), zci, bPar_readParent_50]
      cases e1 : fnd Q.2.2.2.2.1 Q.1.1 (nxK n t K).2.2.2 with
      | none =>
        rw [eO_n, if_pos rfl, Par_fail_e (d := d + 3) g5, zci, bPar_readParent_61, zb0]
        exact ⟨_, _, _, rfl, CF_z (CF_3 b3) (by omega), CF_3 b4, CF_3 b5, FSd_i k1 hn ⟨3, by decide, by decide, rfl⟩⟩
      | some y =>
        have hy := (fnd_s e1).1
        rw [if_neg (show ¬ eO (some y) = -1 from nI_m1 (by omega)), g3, zrs, zob (xp_o a2), eO_s, Pla_parent_e (d := d + 3) a2 hd, zcv, bPar_readParent_71]
        have hM : CS n t m u (q_pa Q (va_up Q.2.1 Q.1.1 (some y))) p (nxK n t K) R1 (z2 (z2 J1 (p + 4) Q.1.1 (nI y)) (p + 5) Q.1.1 (nI 1 <<< (nI y &&& 31))) L1 := CS_i b2 (by rw [z2_ne (by omega), z2_ne (by omega)]) (by rw [z2_ne (by omega), z2_ne (by omega)]) (by rw [z2_ne (by omega), z2_ne (by omega)]) rfl rfl (RC_pa a2 hd g6)
        obtain ⟨R2, J2, L2, s1, s2, s3, s4, s5⟩ := CS_step (ρ := ρ) (d := d) (c := c) k1 hM
        rw [s1, zcv, bPar_readParent_75]
        exact ⟨_, _, _, rfl, CF_t (CF_z (CF_z (CF_3 b3) (by omega)) (by omega)) (CF_3 s3), CF_t (CF_3 b4) (CF_3 s4), CF_t (CF_3 b5) (CF_3 s5), s2⟩
    · have c2' : fre (nxK n t K) = false := by rw [Bool.eq_false_iff]; exact c2
      simp only [if_neg c2]
      rw [c2', if_pos (by decide), Par_fail_e (d := d + 3) g5, zci, bPar_readParent_28, zb0]
      exact ⟨_, _, _, rfl, CF_z (CF_3 b3) (by omega), CF_3 b4, CF_3 b5, FSd_i k1 hn ⟨1, by decide, by decide, rfl⟩⟩
  · simp only [if_neg c1]
    rw [if_neg (fun z => c1 ((C_kw a5 (i := 2) (by decide)).mp z))]
    exact ⟨_, _, _, rfl, CF_r, CF_r, CF_r, h⟩
/-- the needs -/
theorem Par_needs_l : ∀ (f : Nat) (Q : QT) (K : Tk) (R : Nat → Nat → Option Nat) (I : Nat → Nat → Int32) (L : Nat → Nat → Int64), TkI n t K → QN Q → QB Q → (Q.2.2.1 Q.1.1).length + f = 3 → Q.1.1 < 12 → CS n t m u Q p K R I L → ∃ R' J L', EV ρ (d + 5) 139 2 [.ref 3, .int (nI Q.1.1), .int (nI (Q.2.2.1 Q.1.1).length), zU] [] (mk c R I L) = some ([.int (match yNeeds n t f Q K with
      | .ok _ => nI 1
      | .error _ => nI 0)], mk c R' J L') ∧ CF p I J ∧ CF p R R' ∧ CF p L L' ∧ (match yNeeds n t f Q K with
      | .ok (Q', K') => CS n t m u Q' p K' R' J L'
      | .error e => FSd e J) := by
  intro f
  induction f with
  | zero =>
    intro Q K R I L hK hN hB hf hd h
    obtain ⟨a1, a2, a3, a4, a5, a6⟩ := id h
    have hn := a1.2.1
    have hpg := isP_g a2
    rw [bPar_readNeeds_2, C_key a5]
    unfold yNeeds
    by_cases c1 : kW 3 K = true
    · simp only [if_pos c1]
      rw [if_pos ((C_kw a5 (i := 3) (by decide)).mpr c1), if_neg (nI_nlt (by omega) (by omega)), Par_fail_e (d := d + 3) a5, zci, bPar_readNeeds_22, zb0]
      exact ⟨_, _, _, rfl, CF_z CF_r (by omega), CF_r, CF_r, FSd_i hK hn ⟨4, by decide, by decide, rfl⟩⟩
    · simp only [if_neg c1]
      rw [if_neg (fun z => c1 ((C_kw a5 (i := 3) (by decide)).mp z))]
      exact ⟨_, _, _, rfl, CF_r, CF_r, CF_r, h⟩
  | succ f ih =>
    intro Q K R I L hK hN hB hf hd h
    obtain ⟨a1, a2, a3, a4, a5, a6⟩ := id h
    have hn := a1.2.1
    have hpg := isP_g a2
    rw [bPar_readNeeds_2, C_key a5]
    unfold yNeeds
    by_cases c1 : kW 3 K = true
    · have k1 := nxK_i hK
      simp only [if_pos c1]
      rw [if_pos ((C_kw a5 (i := 3) (by decide)).mpr c1), if_pos (nI_lt (by omega) (by decide))]
      obtain ⟨R1, J1, L1, b1, b2, b3, b4, b5⟩ := CS_step (ρ := ρ) (d := d) (c := c) hK h
      obtain ⟨J2, L2, s1, s2, s3, s4⟩ := Par_supply_e (ρ := ρ) (d := d + 2) (c := c) k1 hN b2
      rw [b1, zcv, bPar_readNeeds_27, s1, zci, bPar_readNeeds_31]
      cases es : ySup Q (nxK n t K) with
      | error y =>
        rw [es] at s4
        simp only at s4 ⊢
        rw [if_pos trivial, s4]
        exact ⟨_, _, _, rfl, by rw [← s4]; exact CF_t (CF_3 b3) s2, CF_3 b4, CF_t (CF_3 b5) s3, FSd_i k1 hn (ySup_er es)⟩
      | ok y =>
        obtain ⟨Q1, s⟩ := y
        rw [es] at s4
        simp only at s4 ⊢
        obtain ⟨x1, x2, x3⟩ := s4
        obtain ⟨y1, y2, y3, y4, y5⟩ := ySup_v k1 es hN hB
        have e1 : Q1.1.1 = Q.1.1 := by rw [y5]
        have e2 : Q1.2.2.1 = Q.2.2.1 := by rw [y5]
        have hs8 := y1.2.2.1
        have hl1 : (Q1.2.2.1 Q1.1.1).length < 3 := by rw [e1, e2]; omega
        obtain ⟨g1, g2, g3, g4, g5, g6⟩ := id x1
        rw [if_neg (nI_m1 (by omega)), g3, zrs, zob (xp_o a2), ← e1, Pla_need_e (d := d + 3) (Q := Q1) a2 (by omega) hl1 g6.2.2.2.2.1, zcv, bPar_readNeeds_48]
        have hlen : ∀ x, (va_up Q1.2.2.1 Q1.1.1 (Q1.2.2.1 Q1.1.1 ++ [s]) x).length ≤ 3 ∧ ∀ z ∈ va_up Q1.2.2.1 Q1.1.1 (Q1.2.2.1 Q1.1.1 ++ [s]) x, z < Q1.1.2.2 := fun x => by
          by_cases ex : x = Q1.1.1
          · rw [ex, va_up_self]
            refine ⟨?_, fun z hz => ?_⟩
            · rw [List.length_append]; show _ + 1 ≤ 3; omega
            · rcases List.mem_append.mp hz with g | g
              · exact (y2.2.1 _).2 z g
              · rw [List.mem_singleton.mp g]; exact y3
          · rw [va_up_ne _ _ ex]; exact y2.2.1 x
        have hM : CS n t m u (q_ne Q1 (va_up Q1.2.2.1 Q1.1.1 (Q1.2.2.1 Q1.1.1 ++ [s]))) p (nxK n t K) R1 _ L2 := CS_i x1 (by rw [z2_ne (by omega), z2_ne (by omega), z2_ne (by omega)]) (by rw [z2_ne (by omega), z2_ne (by omega), z2_ne (by omega)]) (by rw [z2_ne (by omega), z2_ne (by omega), z2_ne (by omega)]) rfl rfl (RC_need (s := s) a2 (by omega) y2 hl1 g6)
        obtain ⟨R3, J3, L3, q1, q2, q3, q4, q5⟩ := CS_step (ρ := ρ) (d := d) (c := c) k1 hM
        obtain ⟨R4, J4, L4, p1, p2, p3, p4, p5⟩ := ih (q_ne Q1 (va_up Q1.2.2.1 Q1.1.1 (Q1.2.2.1 Q1.1.1 ++ [s]))) (nxK n t (nxK n t K)) R3 J3 L3 (nxK_i k1) y1 ⟨y2.1, hlen, y2.2.2⟩ (by show (va_up Q1.2.2.1 Q1.1.1 (Q1.2.2.1 Q1.1.1 ++ [s]) Q1.1.1).length + f = 3; rw [va_up_self, List.length_append, e1, e2]; show _ + 1 + f = 3; omega) (by show Q1.1.1 < 12; omega) q2
        have p1' : EV ρ (d + 5) 139 2 [.ref 3, .int (nI Q1.1.1), .int (nI (va_up Q1.2.2.1 Q1.1.1 (Q1.2.2.1 Q1.1.1 ++ [s]) Q1.1.1).length), zU] [] (mk c R3 J3 L3) = _ := p1
        rw [va_up_self, List.length_append] at p1'
        rw [q1, zcv, bPar_readNeeds_52, ← e2, nI_add]
        have p1'' : EV ρ (d + 5) 139 2 [.ref 3, .int (nI Q1.1.1), .int (nI ((Q1.2.2.1 Q1.1.1).length + 1)), zU] [] (mk c R3 J3 L3) = _ := p1'
        rw [p1'']
        exact ⟨R4, J4, L4, rfl, CF_t (CF_t (CF_z (CF_z (CF_z (CF_t (CF_3 b3) s2) (by omega)) (by omega)) (by omega)) (CF_3 q3)) p2, CF_t (CF_t (CF_3 b4) (CF_3 q4)) p3, CF_t (CF_t (CF_t (CF_3 b5) s3) (CF_3 q5)) p4, p5⟩
    · simp only [if_neg c1]
      rw [if_neg (fun z => c1 ((C_kw a5 (i := 3) (by decide)).mp z))]
      exact ⟨_, _, _, rfl, CF_r, CF_r, CF_r, h⟩
end CREAD2
