-- THE CONSTRUCTORS, EVALUATED
def σ0 : Sg := ((0, 0, 0), fun _ _ => none, fun _ _ => none, fun _ _ => 0, fun _ _ => 0)
/-- the final references are as told -/
def ckF (F : Nat → Nat → Option Nat) : Bool := (List.range 281).all (fun k => (Nat.ble 20 (zC k) && !(Nat.beq (zC k) 23 || Nat.beq (zC k) 24)) || (List.range (zN k)).all (fun j => (!(Nat.ble 20 (zC k)) && !(Nat.beq (fk (zC k) j) 2)) || decide (F k j = FC k j)))
/-- the reference's row at the start -/
def sRow (j : Nat) : Int32 := if (12 ≤ j ∧ j < 24) ∨ (36 ≤ j ∧ j < 48) ∨ (264 ≤ j ∧ j < 288) then -1 else if j = 439 then nI 99 else nI 0
def ckS (I : Nat → Nat → Int32) : Bool := (List.range 443).all (fun j => decide (I 274 j = sRow j))
def ckM (I : Nat → Nat → Int32) : Bool := decide (I 257 18 = nI 0) && (decide (I 257 1 = nI 0) && (decide (I 259 0 = nI 0) && (decide (I 259 1 = nI 0) && decide (I 259 2 = nI 0))))
def ckR (R : Nat → Nat → Option Nat) : Bool := decide (R 0 8 = some 10) && (decide (R 0 9 = some 48) && decide (R 86 0 = some 10))
def ckC (I : Nat → Nat → Int32) : Bool := decide (I 0 7 = nI 0) && (decide (I 1 1 = nI 0) && (decide (I 10 0 = nI 0) && (decide (I 10 1 = nI 0) && (decide (I 10 2 = nI 0) && (decide (I 104 0 = nI 0) && (decide (I 8 0 = nI 50) && (decide (I 8 2 = nI 0) && (decide (I 8 3 = nI 0) && (decide (I 86 15 = nI 99) && (decide (I 86 16 = nI 0) && (decide (I 86 17 = nI 0) && (decide (I 96 1 = nI 0) && decide (I 100 1 = nI 0)))))))))))))
def ckB (I : Nat → Nat → Int32) : Bool := (List.range 12).all (fun j => decide (I 87 j = nI 0) && (decide (I 89 j = nI 0) && (decide (I 90 j = -1) && (decide (I 93 j = nI 0) && decide (I 92 j = nI 0))))) && ((List.range 16).all (fun j => decide (I 94 j = -1)) && (List.range 8).all (fun j => decide (I 95 j = -1)))
def cks (s : Sg) : Bool := (Nat.beq s.1.1 281 && (Nat.beq s.1.2.1 0 && Nat.ble s.1.2.2 7000)) && (ckF s.2.1 && (ckR s.2.2.1 && (ckS s.2.2.2.1 && (ckM s.2.2.2.1 && (ckC s.2.2.2.1 && ckB s.2.2.2.1)))))
def chk : Bool := match rd0 3000 6 192 [.ref 0, zU, zU] (nwS σ0 10) with
  | some ([], s) => (Nat.beq s.1.1 257 && Nat.beq s.1.2.1 0) && (match rd0 6000 3 0 [.ref 257] (nwS s 37) with
    | some ([], u) => (Nat.beq u.1.1 280 && Nat.beq u.1.2.1 0) && cks (nwS u 1)
    | _ => false)
  | _ => false
theorem chk_t : chk = true := by decide +kernel
