-- A NEW STATE: what is so of it
theorem bz {j : Nat} : bt (nI 0) j = false := b_0 j
theorem IV_new (P : PT) (g : List (Int32 × Int32 × Int32)) (n : Nat) : IV P (tNew g n) := by
  have h0 : ∀ j, bt (nI 0) j = true → j < 12 := fun j hj => by rw [bz] at hj; cases hj
  refine ⟨⟨⟨fun _ => Nat.zero_le _, ⟨List.Pairwise.nil, fun y hy => by cases hy⟩, ⟨List.Pairwise.nil, fun y => ⟨fun hy => (by cases hy), fun hy => (by cases hy.2)⟩⟩, fun j y hy => (by cases hy), fun j y hy => (by cases hy), fun _ j hj => h0 j hj, fun _ j hj => h0 j hj, fun _ z hz => (by cases hz), fun _ => Nat.zero_le _⟩, fun _ _ => rfl, fun x hx => (by cases hx)⟩, ⟨List.Pairwise.nil, fun _ _ => rfl, fun x => bz⟩, fun a _ h => (by cases h), ⟨fun j y => ⟨fun h => (by cases h), fun h => (by cases h)⟩, fun j y => ⟨fun h => (by cases h), fun h => (by cases h)⟩, fun _ => List.Pairwise.nil⟩, fun y hy => (by cases hy)⟩
theorem NS_new (P : PT) (g : List (Int32 × Int32 × Int32)) (n : Nat) : NS P (tNew g n) := fun j hj => by cases hj
theorem CH_new {P : PT} {b n : Nat} {g : List (Int32 × Int32 × Int32)} {I : Nat → Nat → Int32} : CH P b (tNew g n) I := fun x _ h => by cases h
section NEWB
variable {ρ : Nat × (Nat → Int32)} {d : Nat} {c : Nat × Nat} {R : Nat → Nat → Option Nat} {I J : Nat → Nat → Int32} {L : Nat → Nat → Int64} {P : PT} {b p n : Nat} {g : List (Int32 × Int32 × Int32)}
/-- a bench is set to a plan -/
theorem Ben_reset_i (hV : PV P) (hb : isB b) (hC : PC P p R I) (hj : b = 86 → JouIs I g) (h104 : I 104 0 = nI 0) : ∃ J, EV ρ (d + 3) 157 0 [.ref b, .ref p] [] (mk c R I L) = some ([], mk c (z2 R b 0 (some p)) J L) ∧ CI P b p (tNew g n) (z2 R b 0 (some p)) J ∧ RowIs J (b + 16) [] ∧ J b 18 = nI 0 ∧ ∀ q, ¬ (b ≤ q ∧ q ≤ b + 17) → J q = I q := by
  have hge := xb_ge hb
  have hp := hC.1
  obtain ⟨J, j1, j2, j3, j4, j5⟩ := Ben_reset_e (ρ := ρ) (d := d) (c := c) (R := R) (L := L) (p := p) (n := n) hb hj h104
  exact ⟨J, j1, ⟨⟨hb, hV, by rw [z2a, if_pos ⟨rfl, rfl⟩], PC_R (PC_to hC hV (fun q h1 h2 => j5 q (by unfold isP at hp; omega))) hb _, j2⟩, IV_new P g n, CH_new⟩, j3, j4, j5⟩
end NEWB
