-- THE COMPONENT: rings
section CRING3
variable {ρ : Nat × (Nat → Int32)} {d : Nat} {c : Nat × Nat} {R : Nat → Nat → Option Nat} {I J : Nat → Nat → Int32} {L : Nat → Nat → Int64} {P : PT} {p : Nat} {T : TT}
theorem wts_lt (hV : PV P) {k j : Nat} (h : bt (wts P T k) j = true) : j < P.1.1 := by
  have h12 := hV.1
  unfold wts at h
  split at h
  · rw [bt_R (by omega), Bool.and_eq_true, decide_eq_true_eq] at h
    exact h.1
  · rw [show bt (nI 0) j = false from b_0 j] at h
    cases h
theorem wts_x (hV : PV P) {x : Nat} (hx : x < P.1.1) : bt (wts P T x) x = false := by
  have h12 := hV.1
  unfold wts
  split
  · rw [bt_R (by omega), decide_eq_true hx, Bool.true_and, decide_eq_false (show ¬ x ≠ x from fun z => z rfl), Bool.false_and, Bool.false_or]
    refine decide_eq_false (fun z => ?_)
    have := hV.2.2.2.1 x hx x z.1
    omega
  · exact b_0 x
theorem isRw_254 : isRw 254 := ⟨rfl, rfl, rfl, rfl, rfl⟩
theorem Rin_way (hV : PV P) {x : Nat} (hx : x < P.1.1) (hW : WA (wts P T) P.1.1 I) : ∃ J, EV ρ (d + 2) 191 0 [.ref 251, .int (nI x), zU, zU, zU] [] (mk c R I L) = some ([.int (if rgL P T x < 99 then nI (rgL P T x) else nI 0)], mk c R J L) ∧ WA (wts P T) P.1.1 J ∧ (rgL P T x < 99 → rgL P T x ≤ 12 ∧ ∀ k, k < rgL P T x → NR (wts P T) P.1.1 x J k) ∧ ∀ q, q ≠ 253 → J q = I q := by
  have h12 := hV.1
  rw [bRin_shortestWay_0, bRin_shortestWay_9, z2_at]
  have hb : ∀ j, j < 32 → (bt (nI 1 <<< (nI x &&& 31)) j = true ↔ j < P.1.1 ∧ ed (wts P T) P.1.1 x 0 j) := fun j hj => by
    rw [b_bit (by omega), decide_eq_true_eq]
    constructor
    · exact fun z => ⟨by omega, z, fun i hi => by omega⟩
    · exact fun z => z.2.1
  obtain ⟨J, j1, j2, j3, j4⟩ := Rin_way_l (ρ := ρ) (d := d) (c := c) (R := R) (L := L) (W := wts P T) h12 hx 11 0 (nI 1 <<< (nI x &&& 31)) (z2 I 253 0 (nI 1 <<< (nI x &&& 31))) (by omega) ⟨fun y hy => by rw [z2_ne (by decide)]; exact hW.1 y hy, fun y h1 h2 => by rw [z2_ne (by decide)]; exact hW.2 y h1 h2⟩ (fun k hk j hj => by rw [show k = 0 from by omega, z2_at]; exact hb j hj) (fun j hj => by
    rw [hb j hj]
    constructor
    · exact fun z => ⟨z.1, 0, by omega, z.2⟩
    · rintro ⟨z1, i, z2, z3⟩
      obtain rfl : i = 0 := by omega
      exact ⟨z1, z3⟩) (fun i hi o ho hbo he => by
    obtain rfl : i = 0 := by omega
    have : o = x := he.1
    rw [this, wts_x hV hx] at hbo
    cases hbo)
  exact ⟨J, j1, j2, j3, fun q hq => by rw [j4 q hq, z2_ne hq]⟩
/-- those for which each one waits -/
theorem Rin_fill {x : Nat} : ∀ (r e : Nat) (I : Nat → Nat → Int32), e + r = 12 → CX P 86 p T R I → TV P T → (∀ y, y < e → y < P.1.1 → I 252 y = wts P T y) → (∀ y, y < e → P.1.1 ≤ y → I 252 y = nI 0) → ∃ J, EV ρ (d + 6) 190 9 [.ref 251, .ref 86, .int (nI x), .int (nI e), zU, zU, zU] [] (mk c R I L) = EV ρ (d + 6) 190 9 [.ref 251, .ref 86, .int (nI x), .int (nI 12), zU, zU, zU] [] (mk c R J L) ∧ WA (wts P T) P.1.1 J ∧ ∀ q, q ≠ 252 → J q = I q := by
  intro r
  induction r with
  | zero =>
    intro e I he h hv h1 h2
    have h12 := h.2.1.1
    exact ⟨I, by rw [show e = 12 from by omega], ⟨fun y hy => h1 y (by omega) hy, fun y h3 h4 => h2 y (by omega) h3⟩, fun _ _ => rfl⟩
  | succ r ih =>
    intro e I he h hv h1 h2
    have h' := h
    obtain ⟨hb, hV, hR, hC, hT⟩ := h
    have h12 := hV.1
    have hp := hC.1
    have nxt : ∀ v, (e < P.1.1 → v = wts P T e) → (P.1.1 ≤ e → v = nI 0) → ∃ J, EV ρ (d + 6) 190 41 [.ref 251, .ref 86, .int (nI x), .int (nI e), zU, zU, zU] [] (mk c R (z2 I 252 e v) L) = EV ρ (d + 6) 190 9 [.ref 251, .ref 86, .int (nI x), .int (nI 12), zU, zU, zU] [] (mk c R J L) ∧ WA (wts P T) P.1.1 J ∧ ∀ q, q ≠ 252 → J q = I q := fun v hv1 hv2 => by
      rw [bRin_seek_41, nI_add]
      have hX : CX P 86 p T R (z2 I 252 e v) := ⟨hb, hV, hR, PC_to hC hV (fun q g1 g2 => z2_ne (by unfold isP at hp; omega)), CR_to hT (fun k hk => z2_ne (by simp only [List.mem_cons, List.not_mem_nil, or_false] at hk; omega)) (by rw [z2_ne (by decide)]) (by rw [z2_ne (by decide)]) (by rw [z2_ne (by decide)]) (fun _ => ⟨z2_ne (by decide), z2_ne (by decide)⟩) (by rw [z2_ne (by decide)])⟩
      obtain ⟨J, j1, j2, j3⟩ := ih (e + 1) (z2 I 252 e v) (by omega) hX hv (fun y g1 g2 => by
        rw [z2a]
        by_cases ey : y = e
        · rw [if_pos ⟨rfl, ey⟩, ey]; exact hv1 (by omega)
        · rw [if_neg (fun z => ey z.2)]; exact h1 y (by omega) g2) (fun y g1 g2 => by
        rw [z2a]
        by_cases ey : y = e
        · rw [if_pos ⟨rfl, ey⟩]; exact hv2 (by omega)
        · rw [if_neg (fun z => ey z.2)]; exact h2 y (by omega) g2)
      exact ⟨J, j1, j2, fun q hq => by rw [j3 q hq, z2_ne hq]⟩
    rw [bRin_seek_9, if_neg (nI_ge (by omega) (by decide)), zob (xb_o hb), hR, zrs, zob (xp_o hp), hC.2.1]
    by_cases en : P.1.1 ≤ e
    · rw [if_pos (nI_le en (by omega)), zidx_n (by omega) (by decide)]
      exact nxt (nI 0) (fun z => by omega) (fun _ => rfl)
    · rw [if_neg (nI_ge (by omega) (by omega)), zob (xb_o hb), Ben_waitsFor_e h' hv (by omega), zci, bRin_seek_36, zidx_n (by omega) (by decide)]
      exact nxt (wts P T e) (fun _ => rfl) (fun z => by omega)
end CRING3
