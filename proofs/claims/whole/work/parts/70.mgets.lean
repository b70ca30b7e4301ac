-- PROBES in the reference: gets
section MWRONG
variable {ρ : Nat × (Nat → Int32)} {d : Nat} {c : Nat × Nat} {R : Nat → Nat → Option Nat} {I : Nat → Nat → Int32} {L : Nat → Nat → Int64} {P : PT} {sd : Nat} {T : TT}
theorem MX_z2 {j : Nat} {v : Int32} (h : MX P sd T I) (hj : j ≠ 18) : MX P sd T (z2 I 257 j v) := ⟨h.1, PM_z2 hj h.2.1, by rw [z2_ne (by decide)]; exact h.2.2⟩
theorem M_gets_e (h : MX P sd T I) (hv : TV P T) {x z : Nat} (hx : x < P.1.1) (hz : z < 8) : ∃ J, EV ρ (d + 5) 48 0 [.ref 257, .int (nI x), .int (nI z), zU] [] (mk c R I L) = some ([.int (nI (tGets P T x z).1.1)], mk c R J L) ∧ MX P sd (tGets P T x z).2 J ∧ FM I J ∧ J 257 31 = I 257 31 ∧ ((tGets P T x z).1.1 ≠ 0 → J 257 30 = (tGets P T x z).1.2) := by
  have h12 := h.1.1
  have h1 := MX_z2 (j := 30) (v := nI z) h (by decide)
  rw [bM_gets_0, nI_add, zidx_n (by omega) (by decide), h.2.2.2.2.1.2.1 z hz, bM_gets_16]
  unfold tGets
  cases e : T.2.1.2.1 z with
  | none =>
    rw [if_neg (by decide)]
    exact ⟨_, rfl, h1, FM.rf.z2 (Or.inl rfl), by rw [z2a, if_neg (by omega)], fun _ => by rw [z2a, if_pos ⟨rfl, rfl⟩]⟩
  | some g =>
    have hg := hv.2.2.2.1 z g e
    have h2 := MX_z2 (j := 30) (v := nI g) h1 (by decide)
    have hF : FM I (z2 (z2 I 257 30 (nI z)) 257 30 (nI g)) := (FM.rf.z2 (Or.inl rfl)).z2 (Or.inl rfl)
    have h31 : z2 (z2 I 257 30 (nI z)) 257 30 (nI g) 257 31 = I 257 31 := by rw [z2a, if_neg (by omega), z2a, if_neg (by omega)]
    have h30 : z2 (z2 I 257 30 (nI z)) 257 30 (nI g) 257 30 = nI g := by rw [z2a, if_pos ⟨rfl, rfl⟩]
    rw [eO_s, if_pos (nI_pos' (by omega)), bM_gets_27]
    dsimp only
    by_cases e1 : g = x
    · rw [if_pos (by rw [e1]), if_pos e1]
      exact ⟨_, rfl, h2, hF, h31, fun z => absurd rfl z⟩
    · rw [if_neg (by rw [nI_eq (by omega) (by omega)]; exact e1), if_neg e1, M_above_e h2 (hv.ovB h.1) hg, zci, bM_gets_39, M_has_e _ (by omega), zci, bM_gets_43]
      cases e2 : bt (abv P T g) x with
      | true =>
        rw [if_neg (by decide)]
        exact ⟨_, rfl, h2, hF, h31, fun _ => h30⟩
      | false =>
        rw [if_pos (by decide), nI_add, zidx_n (by omega) (by decide), zidx_n (by omega) (by decide), bM_gets_63]
        have e3 : z2 (z2 I 257 30 (nI z)) 257 30 (nI g) 274 = I 274 := by rw [z2_ne (by decide), z2_ne (by decide)]
        have e4 : T.2.1.1.1 x = I 274 (96 + x) := (h.2.2.2.1 x (by omega)).2.2.2.2.symm
        rw [e3, ← e4]
        have e5 : ∀ v, z2 (z2 (z2 I 257 30 (nI z)) 257 30 (nI g)) 274 (96 + x) v = va_up (z2 (z2 I 257 30 (nI z)) 257 30 (nI g)) 274 (va_up (I 274) (96 + x) v) := fun v => by
          show va_up _ 274 (va_up (z2 (z2 I 257 30 (nI z)) 257 30 (nI g) 274) _ v) = _
          rw [e3]
        rw [e5]
        refine ⟨_, rfl, ⟨h.1, PM_up _ h2.2.1, by rw [va_s]; exact MR_co (by omega) _ h.2.2 (hv.bnd h.1)⟩, hF.up _, by rw [va_n (by decide)]; exact h31, fun z => absurd rfl z⟩
end MWRONG
