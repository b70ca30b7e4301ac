-- THE COMPONENT: a bench anew
/-- none is there, nothing is loaded -/
def tNew (g : List (Int32 × Int32 × Int32)) (n : Nat) : TT := ((((fun _ => 0, fun _ => 0), (fun _ => nI 0, fun _ => -1)), ((fun _ => false, []), ([], fun _ => nI 0))), (((fun _ => nI 0, fun _ => none), (fun _ => none, g)), ((nI 99, nI 0), (fun _ => [], n))))
section CRESET
variable {ρ : Nat × (Nat → Int32)} {d : Nat} {c : Nat × Nat} {R : Nat → Nat → Option Nat} {I J : Nat → Nat → Int32} {L : Nat → Nat → Int64} {b p : Nat} {g : List (Int32 × Int32 × Int32)} {n : Nat}
theorem Ben_reset_e (hb : isB b) (hj : b = 86 → JouIs I g) (h104 : I 104 0 = nI 0) : ∃ J, EV ρ (d + 3) 157 0 [.ref b, .ref p] [] (mk c R I L) = some ([], mk c (z2 R b 0 (some p)) J L) ∧ CR b (tNew g n) J ∧ RowIs J (b + 16) [] ∧ J b 18 = nI 0 ∧ ∀ q, ¬ (b ≤ q ∧ q ≤ b + 17) → J q = I q := by
  have hge := xb_ge hb
  have h18 := xb_18 hb
  have hn104 := xb_104 hb
  obtain ⟨K1, a1, v1, f1⟩ := Arr_fill_e (ρ := ρ) (d := d + 1) (c := c) (R := z2 R b 0 (some p)) (I := I) (L := L) (xb_a1 hb) (by decide) (nI 0)
  obtain ⟨K2, a2, v2, f2⟩ := Arr_fill_e (ρ := ρ) (d := d + 1) (c := c) (R := z2 R b 0 (some p)) (I := K1) (L := L) (xb_a2 hb) (by decide) (-1)
  obtain ⟨K3, a3, v3, f3⟩ := Arr_fill_e (ρ := ρ) (d := d + 1) (c := c) (R := z2 R b 0 (some p)) (I := K2) (L := L) (xb_a3 hb) (by decide) (nI 0)
  obtain ⟨K4, a4, v4, f4⟩ := Arr_fill_e (ρ := ρ) (d := d + 1) (c := c) (R := z2 R b 0 (some p)) (I := K3) (L := L) (xb_a4 hb) (by decide) (-1)
  obtain ⟨K5, a5, v5, f5⟩ := Arr_fill_e (ρ := ρ) (d := d + 1) (c := c) (R := z2 R b 0 (some p)) (I := K4) (L := L) (xb_a5 hb) (by decide) (nI 0)
  obtain ⟨K6, a6, v6, f6⟩ := Arr_fill_e (ρ := ρ) (d := d + 1) (c := c) (R := z2 R b 0 (some p)) (I := K5) (L := L) (xb_a6 hb) (by decide) (nI 0)
  obtain ⟨K7, a7, v7, f7⟩ := Arr_fill_e (ρ := ρ) (d := d + 1) (c := c) (R := z2 R b 0 (some p)) (I := K6) (L := L) (xb_a7 hb) (by decide) (nI 0)
  obtain ⟨K8, a8, v8, f8⟩ := Arr_fill_e (ρ := ρ) (d := d + 1) (c := c) (R := z2 R b 0 (some p)) (I := K7) (L := L) (xb_a8 hb) (by decide) (-1)
  obtain ⟨K9, a9, v9, f9⟩ := Arr_fill_e (ρ := ρ) (d := d + 1) (c := c) (R := z2 R b 0 (some p)) (I := K8) (L := L) (xb_a9 hb) (by decide) (-1)
  rw [bBen_reset_0, zob (xb_o hb), bBen_reset_5, zob (xb_o hb), xb_F2 hb, zrs, a1, zcv, bBen_reset_13, zob (xb_o hb), xb_F3 hb, zrs, a2, zcv, bBen_reset_21, zob (xb_o hb), xb_F4 hb, zrs, a3, zcv, bBen_reset_29, zob (xb_o hb), xb_F5 hb, zrs, a4, zcv, bBen_reset_37, zob (xb_o hb), xb_F6 hb, zrs, a5, zcv, bBen_reset_45, zob (xb_o hb), xb_F7 hb, zrs, a6, zcv, bBen_reset_53, zob (xb_o hb), xb_F8 hb, zrs, a7, zcv, bBen_reset_61, zob (xb_o hb), xb_F9 hb, zrs, a8, zcv, bBen_reset_69, zob (xb_o hb), xb_F10 hb, zrs, a9, zcv, bBen_reset_77, zob (xb_o hb), xb_F11 hb, zrs, zob (xb_r10 hb).1, Row_clear_e (xb_r10 hb), zcv, bBen_reset_84, zob (xb_o hb), xb_F13 hb, zrs, zob (xb_r14 hb).1, Row_clear_e (xb_r14 hb), zcv, bBen_reset_91, zob (xb_o hb), bBen_reset_97, zob (xb_o hb), bBen_reset_102, zob (xb_o hb), bBen_reset_107, zob (xb_o hb), bBen_begin_0, zob (xb_o hb), bBen_begin_5, zob (xb_o hb), xb_F14 hb, zrs, zob (xb_r16 hb).1, Row_clear_e (xb_r16 hb), zcv, bBen_begin_12, zcv, bBen_reset_111]
  generalize hJd : z2 (z2 (z2 (z2 (z2 (z2 (z2 K9 (b + 10) 1 (nI 0)) (b + 14) 1 (nI 0)) b 15 (nI 99)) b 16 (nI 0)) b 17 (nI 0)) b 18 (nI 0)) (b + 16) 1 (nI 0) = J
  have hJ : ∀ q, ¬ (q = b ∨ q = b + 10 ∨ q = b + 14 ∨ q = b + 16) → J q = K9 q := fun q hq => by
    rw [← hJd, z2_ne (by omega), z2_ne (by omega), z2_ne (by omega), z2_ne (by omega), z2_ne (by omega), z2_ne (by omega), z2_ne (by omega)]
  have hF : ∀ q, ¬ (b ≤ q ∧ q ≤ b + 17) → J q = I q := fun q hq => by
    rw [hJ q (by omega), f9 _ (by omega), f8 _ (by omega), f7 _ (by omega), f6 _ (by omega), f5 _ (by omega), f4 _ (by omega), f3 _ (by omega), f2 _ (by omega), f1 _ (by omega)]
  have nil_ : ∀ q, J q 1 = nI 0 → RowIs J q [] := fun q h => ⟨h, by decide, fun i v hi => by cases hi⟩
  refine ⟨J, rfl, ⟨fun y hy => ⟨?_, fun z => ?_⟩, fun y hy => ⟨?_, ?_, ?_, ?_⟩, ⟨fun j hj => ?_, fun j hj => ?_, ?_, ?_⟩, nil_ _ ?_, nil_ _ ?_, fun e => ⟨?_, fun j hj => ?_⟩, ?_⟩, nil_ _ ?_, ?_, hF⟩
  · rw [hJ _ (by omega), f9 _ (by omega), f8 _ (by omega), f7 _ (by omega), f6 _ (by omega), f5 _ (by omega), f4 _ (by omega), f3 _ (by omega), f2 _ (by omega)]; exact v1 y hy
  · cases z
  · rw [hJ _ (by omega), f9 _ (by omega), f8 _ (by omega), f7 _ (by omega), f6 _ (by omega), f5 _ (by omega), f4 _ (by omega)]; exact v3 y hy
  · rw [hJ _ (by omega), f9 _ (by omega), f8 _ (by omega), f7 _ (by omega), f6 _ (by omega), f5 _ (by omega)]; exact v4 y hy
  · rw [hJ _ (by omega), f9 _ (by omega), f8 _ (by omega)]; exact v7 y hy
  · rw [hJ _ (by omega), f9 _ (by omega), f8 _ (by omega), f7 _ (by omega)]; exact v6 y hy
  · rw [hJ _ (by omega), f9 _ (by omega)]; exact v8 j hj
  · rw [hJ _ (by omega)]; exact v9 j hj
  · rw [← hJd, z2_ne (by omega), z2a, if_neg (by omega), z2a, if_neg (by omega), z2a, if_neg (by omega), z2_at]; rfl
  · rw [← hJd, z2_ne (by omega), z2a, if_neg (by omega), z2a, if_neg (by omega), z2_at]; rfl
  · rw [← hJd, z2_ne (by omega), z2_ne (by omega), z2_ne (by omega), z2_ne (by omega), z2_ne (by omega), z2_ne (by omega), z2_at]
  · rw [← hJd, z2_ne (by omega), z2_ne (by omega), z2_ne (by omega), z2_ne (by omega), z2_ne (by omega), z2_at]
  · exact JouIs_to (hj e) (hF _ (by omega)) (hF _ (by omega))
  · have e17 : J 86 17 = nI 0 := by rw [← e, ← hJd, z2_ne (by omega), z2a, if_neg (by omega), z2_at]
    rw [e17, show bt (nI 0) j = false from b_0 j]
    show false = (decide (j < 12) && false)
    rw [Bool.and_false]
  · rw [hF 104 (by have := hn104 0; have := hn104 17; unfold isB at hb; omega)]; exact h104
  · rw [← hJd, z2_at]
  · rw [← hJd, z2_ne (by omega), z2_at]
end CRESET
