theorem tst1 (ρ : Nat × (Nat → Int32)) (d : Nat) (c : Nat × Nat) (R : Nat → Nat → Option Nat) (I : Nat → Nat → Int32) (L : Nat → Nat → Int64) (x y : Int32) :
  EV ρ (d + 1) 52 0 [.ref 257, .int x, zU] [] (mk c R I L) = EV ρ (d + 1) 52 2 [.ref 257, .int x, .int 0] [] (mk c R I L) := (EV_go ρ d 52 40 _ _ _ _).trans rfl
theorem tst2 (ρ : Nat × (Nat → Int32)) (d : Nat) (c : Nat × Nat) (R : Nat → Nat → Option Nat) (I : Nat → Nat → Int32) (L : Nat → Nat → Int64) (x y : Int32) :
  EV ρ (d + 1) 52 2 [.ref 257, .int x, .int y] [] (mk c R I L) = if I 274 438 ≤ y then some ([.int (-1)], mk c R I L) else zidx (72 + y) 443 fun j => if I 274 j = x then some ([.int y], mk c R I L) else EV ρ (d + 1) 52 2 [.ref 257, .int x, .int (y + 1)] [] (mk c R I L) := (EV_go ρ d 52 40 _ _ _ _).trans rfl
