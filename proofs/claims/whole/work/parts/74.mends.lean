-- THE END OF A CALL in the reference: passes
section MENDS
variable {ρ : Nat × (Nat → Int32)} {d : Nat} {c : Nat × Nat} {R : Nat → Nat → Option Nat} {I : Nat → Nat → Int32} {L : Nat → Nat → Int64} {P : PT} {sd : Nat} {T : TT}
theorem M_ends_c (l : List Nat) (hl : l.length ≤ 12) (w : Int32) (hR : RowM (I 274) l) : ∀ (n k : Nat) (J : Nat → Nat → Int32), k + n = l.length → (∀ q, q ≠ 276 → J q = I q) → (∀ j v, j < k → l[j]? = some v → J 276 j = nI v) → ∃ K, EV ρ (d + 11) 58 27 [.ref 257, zU, .int w, .int (nI l.length), .int (nI k)] [] (mk c R J L) = EV ρ (d + 11) 58 59 [.ref 257, zU, .int w, .int (nI l.length), .int (nI 0)] [] (mk c R K L) ∧ (∀ q, q ≠ 276 → K q = I q) ∧ (∀ j v, l[j]? = some v → K 276 j = nI v) := by
  intro n
  induction n with
  | zero =>
    intro k J hk h1 h2
    refine ⟨J, ?_, h1, fun j v hj => h2 j v (by have := (List.getElem?_eq_some_iff.mp hj).1; omega) hj⟩
    rw [bM_ends_27, if_pos (nI_le (by omega) (by omega))]
  | succ n ih =>
    intro k J hk h1 h2
    have hk2 : k < l.length := by omega
    rw [bM_ends_27, if_neg (nI_ge hk2 (by omega)), nI_add, zidx_n (by omega) (by decide), zidx_n (by omega) (by decide), bM_ends_50, nI_add, h1 274 (by decide), hR.2.2 k _ (List.getElem?_eq_getElem hk2)]
    refine ih (k + 1) _ (by omega) (fun q hq => by rw [z2_ne hq]; exact h1 q hq) (fun j v hj hv => ?_)
    rw [z2a]
    by_cases e : j = k
    · subst e
      rw [List.getElem?_eq_getElem hk2] at hv
      cases hv
      rw [if_pos ⟨rfl, rfl⟩]
    · rw [if_neg (by omega)]
      exact h2 j v (by omega) hv
theorem FM_276 {I J : Nat → Nat → Int32} (h : FM I J) : J 276 = I 276 := by
  funext j
  exact h 276 j (by omega)
theorem M_ends_p (l : List Nat) (hl : l.length ≤ 12) (hln : ∀ y ∈ l, y < P.1.1) (w : Int32) : ∀ (n k : Nat) (T : TT) (I : Nat → Nat → Int32), k + n = l.length → (∀ j v, l[j]? = some v → I 276 j = nI v) → MX P sd T I → TI P T → ∃ J, EV ρ (d + 11) 58 59 [.ref 257, zU, .int w, .int (nI l.length), .int (nI k)] [] (mk c R I L) = EV ρ (d + 11) 58 2 [.ref 257, zU, .int w, zU, zU] [] (mk c R J L) ∧ MX P sd (tPass P (l.drop k) T) J ∧ FM I J ∧ BN I J T (tPass P (l.drop k) T) := by
  intro n
  induction n with
  | zero =>
    intro k T I hk hp h hT
    rw [List.drop_eq_nil_of_le (by omega), bM_ends_59, if_pos (nI_le (by omega) (by omega))]
    exact ⟨I, rfl, h, FM.rf, BN.rf⟩
  | succ n ih =>
    intro k T I hk hp h hT
    have h12 := h.1.1
    have hk2 : k < l.length := by omega
    have hy := hln _ (List.getElem_mem hk2)
    have hst := hT.1.1 l[k]
    rw [List.drop_eq_getElem_cons hk2, bM_ends_59, if_neg (nI_ge hk2 (by omega)), zidx_n (by omega) (by decide), hp k _ (List.getElem?_eq_getElem hk2), nI_add, Nat.zero_add, zidx_n (by omega) (by decide), (h.2.2.1 l[k] (by omega)).1, zidx_n (by omega) (by decide), hp k _ (List.getElem?_eq_getElem hk2)]
    unfold tPass
    by_cases e : T.1.1.1.1 l[k] = 2
    · rw [if_pos (by rw [e]), if_pos e]
      obtain ⟨J, g1, g2, g3, g4⟩ := M_tries_e (ρ := ρ) (d := d) (c := c) (R := R) (L := L) h hT hy (by omega)
      obtain ⟨f1, f2⟩ := tTry_f h.1 hT hy (show T.1.1.1.1 l[k] ≠ 3 by omega)
      rw [g1, zcv, bM_ends_94, nI_add]
      obtain ⟨J2, k1, k2, k3, k4⟩ := ih (k + 1) _ J (by omega) (by rw [FM_276 g3]; exact hp) g2 f1
      exact ⟨J2, k1, k2, g3.tr k3, g4.tr k4⟩
    · rw [if_neg (by rw [nI_eq (by omega) (by decide)]; exact e), if_neg e, bM_ends_94, nI_add]
      exact ih (k + 1) T I (by omega) hp h hT
theorem bnd_12 (hV : PV P) (hT : TV P T) : T.1.2.2.1.length ≤ 12 := nd_len hT.2.2.1.1 (hT.bnd hV)
/-- passes up to one that binds none -/
theorem M_ends_o {c0 : Nat} : ∀ (n had : Nat) (T : TT) (I : Nat → Nat → Int32), c0 ≤ had → had ≤ T.2.2.2.2 → T.2.2.2.2 + 12 < 2 ^ 30 + T.1.2.2.1.length → I 257 31 = nI (T.2.2.2.2 - c0) → (had < T.2.2.2.2 → 13 ≤ n + T.1.2.2.1.length) → MX P sd T I → TI P T → ∃ J, EV ρ (d + 11) 58 2 [.ref 257, zU, .int (nI (had - c0)), zU, zU] [] (mk c R I L) = some ([], mk c R J L) ∧ MX P sd (tSettle P n had T) J ∧ FX I J ∧ J 257 31 = nI ((tSettle P n had T).2.2.2.2 - c0) := by
  intro n
  induction n with
  | zero =>
    intro had T I h0 h1 hc hb hn h hT
    have := bnd_12 h.1 hT.1
    rw [bM_ends_2, hb, if_pos (nI_le (by omega) (by omega))]
    exact ⟨I, rfl, h, FX.rf, hb⟩
  | succ n ih =>
    intro had T I h0 h1 hc hb hn h hT
    have hb12 := bnd_12 h.1 hT.1
    unfold tSettle
    rw [bM_ends_2, hb]
    by_cases e : had < T.2.2.2.2
    · have hr12 := h.2.2.2.2.2.1.2.1
      rw [if_neg (nI_ge (by omega) (by omega)), if_pos e, h.2.2.2.2.2.1.1]
      obtain ⟨K, g1, g2, g3⟩ := M_ends_c (ρ := ρ) (d := d) (c := c) (R := R) (I := I) (L := L) T.1.2.1.2 hr12 (nI (T.2.2.2.2 - c0)) h.2.2.2.2.2.1 T.1.2.1.2.length 0 I (by omega) (fun _ _ => rfl) (fun j v hj => by omega)
      have hK : MX P sd T K := ⟨h.1, PM_to h.2.1 (fun q hq => g2 q (by
        have : ∀ q, q ∈ bdM → q ≠ 276 := by decide
        exact this q hq)) (by rw [g2 257 (by decide)]), by rw [g2 274 (by decide)]; exact h.2.2⟩
      have hXK : FX I K := fun q j hq => by rw [g2 q (by omega)]
      obtain ⟨J, k1, k2, k3, k4⟩ := M_ends_p (ρ := ρ) (d := d) (c := c) (R := R) (L := L) (P := P) (sd := sd) T.1.2.1.2 hr12 hT.1.2.1.2 (nI (T.2.2.2.2 - c0)) T.1.2.1.2.length 0 T K (by omega) g3 hK hT
      rw [List.drop_zero] at k2 k4
      obtain ⟨f1, f2⟩ := tPass_f h.1 T.1.2.1.2 T hT.1.2.1.2 hT
      have hbp := bnd_12 h.1 f1.1
      have hJ := k4.at (by rw [g2 257 (by decide)]; exact hb) (by omega) f2.2.2.1
      have f21 := f2.2.1
      have f22 := f2.2.2.1
      rw [g1, k1]
      obtain ⟨J2, q1, q2, q3, q4⟩ := ih T.2.2.2.2 _ J (by omega) f22 (by omega) hJ (fun z => by have := hn e; omega) k2 f1
      exact ⟨J2, q1, q2, (hXK.tr k3.x).tr q3, q4⟩
    · rw [if_pos (nI_le (by omega) (by omega)), if_neg e]
      exact ⟨I, rfl, h, FX.rf, hb⟩
theorem M_ends_e (h : MX P sd T I) (hT : TI P T) {c0 : Nat} (h0 : c0 ≤ T.2.2.2.2) (hc : T.2.2.2.2 + 12 < 2 ^ 30 + T.1.2.2.1.length) (hb : I 257 31 = nI (T.2.2.2.2 - c0)) : ∃ J, EV ρ (d + 11) 58 0 [.ref 257, .int (nI 0), zU, zU, zU] [] (mk c R I L) = some ([], mk c R J L) ∧ MX P sd (tSettle P 13 c0 T) J ∧ FX I J ∧ J 257 31 = nI ((tSettle P 13 c0 T).2.2.2.2 - c0) := by
  rw [bM_ends_0]
  have := M_ends_o (ρ := ρ) (d := d) (c := c) (R := R) (L := L) (P := P) (sd := sd) (c0 := c0) 13 c0 T I (Nat.le_refl _) h0 hc hb (fun _ => by omega) h hT
  rw [Nat.sub_self] at this
  exact this
end MENDS
