-- THE ABSTRACT MACHINE: cells are numbered as they are made, their shapes are told ahead (zC, zN), final references stand in F, others in R, ints in I, longs in L
abbrev Sg : Type := (Nat × Nat × Nat) × (Nat → Nat → Option Nat) × (Nat → Nat → Option Nat) × (Nat → Nat → Int32) × (Nat → Nat → Int64)
abbrev Rs : Type := Option (List Value × Sg)
abbrev Kn : Type := Nat → List Value → List Value → Sg → Rs
/-- the instruction, the next pc, arguments, an int -/
abbrev Op : Type := Instr × Nat × List Nat × Int32
abbrev zU : Value := .retAddr 0
def z2 {α : Type} (f : Nat → Nat → α) (k j : Nat) (v : α) : Nat → Nat → α := va_up f k (va_up (f k) j v)
def zr (o : Option Nat) : Value := match o with
  | none => .null
  | some k => .ref k
def zref (v : Value) (f : Nat → Rs) : Rs := match v with
  | .ref k => f k
  | _ => none
/-- a reference or null -/
def znul (v : Value) (f : Option Nat → Rs) : Rs := match v with
  | .ref k => f (some k)
  | .null => f none
  | _ => none
/-- one of the constants, or null -/
def znuk (v : Value) (f : Option Nat → Rs) : Rs := match v with
  | .ref k => bif Nat.ble 1000 k && Nat.ble k 1009 then f (some k) else none
  | .null => f none
  | _ => none
def zint (v : Value) (f : Int32 → Rs) : Rs := match v with
  | .int x => f x
  | _ => none
def zlon (v : Value) (f : Int64 → Rs) : Rs := match v with
  | .long x => f x
  | _ => none
/-- an int or a reference -/
def zdup (v : Value) (f : Value → Rs) : Rs := match v with
  | .int x => f (.int x)
  | .ref x => f (.ref x)
  | _ => none
def zp1 (st : List Value) (f : Value → List Value → Rs) : Rs := match st with
  | v :: r => f v r
  | _ => none
def zp2 (st : List Value) (f : Value → Value → List Value → Rs) : Rs := match st with
  | w :: v :: r => f v w r
  | _ => none
def zp3 (st : List Value) (f : Value → Value → Value → List Value → Rs) : Rs := match st with
  | x :: w :: v :: r => f v w x r
  | _ => none
def zi2 (st : List Value) (f : Int32 → Int32 → List Value → Rs) : Rs := zp2 st fun v w r => zint v fun x => zint w fun y => f x y r
def zl2 (st : List Value) (f : Int64 → Int64 → List Value → Rs) : Rs := zp2 st fun v w r => zlon v fun x => zlon w fun y => f x y r
def zli (st : List Value) (f : Int64 → Int32 → List Value → Rs) : Rs := zp2 st fun v w r => zlon v fun x => zint w fun y => f x y r
def zi1 (st : List Value) (f : Int32 → List Value → Rs) : Rs := zp1 st fun v r => zint v fun x => f x r
def za1 (a : List Nat) (f : Nat → Rs) : Rs := match a with
  | [j] => f j
  | _ => none
def zld (xs : List Value) (j : Nat) (f : Value → Rs) : Rs := match xs[j]? with
  | some v => f v
  | none => none
/-- a place before j that holds a long is no more -/
def zbef (xs : List Value) (j : Nat) : List Value := match j with
  | 0 => xs
  | i + 1 => match xs[i]? with
    | some (.long _) => xs.set i zU
    | _ => xs
def zst (xs : List Value) (j : Nat) (v : Value) (f : List Value → Rs) : Rs := bif Nat.blt j xs.length then f ((zbef xs j).set j v) else none
def zst2 (xs : List Value) (j : Nat) (v : Value) (f : List Value → Rs) : Rs := bif Nat.blt (j + 1) xs.length then f (((zbef xs j).set j v).set (j + 1) zU) else none
def kil (ks : List Nat) (xs : List Value) : List Value := match ks with
  | [] => xs
  | k :: ks => kil ks (xs.set k zU)
def zsw (x : Int32) (d : Nat) (ts : List Nat) (i : Nat) (f : Nat → Rs) : Rs := match ts with
  | [] => f d
  | t :: ts => if x = nI i then f t else zsw x d ts (i + 1) f
/-- the answer of a call -/
def zcI (o : Rs) (f : Int32 → Sg → Rs) : Rs := match o with
  | some ([.int x], s) => f x s
  | _ => none
def zcL (o : Rs) (f : Int64 → Sg → Rs) : Rs := match o with
  | some ([.long x], s) => f x s
  | _ => none
def zcR (o : Rs) (f : Nat → Sg → Rs) : Rs := match o with
  | some ([.ref x], s) => f x s
  | _ => none
def zcV (o : Rs) (f : Sg → Rs) : Rs := match o with
  | some ([], s) => f s
  | _ => none
/-- little enough lies below a call's arguments -/
def zok (r : List Value) : Bool := Nat.ble r.length 4 || Nat.ble (r.map Value.category).sum 8
def zlay (vs : List Value) : List Value := match vs with
  | [] => []
  | .long x :: r => .long x :: zU :: zlay r
  | v :: r => v :: zlay r
def zpad (n : Nat) (vs : List Value) : List Value := vs ++ List.replicate (n - vs.length) zU
section
variable (zC zN : Nat → Nat) (ρ : Nat × (Nat → Int32))
def zobj (s : Sg) (q c : Nat) (f : Rs) : Rs := bif Nat.blt q s.1.1 && Nat.beq (zC q) c then f else none
/-- an argument by its kind: an int, a long, a reference, a constant, an object of a class -/
def zfor (s : Sg) (k : Nat) (v : Value) (f : Value → Rs) : Rs := match k with
  | 0 => zint v fun x => f (.int x)
  | 1 => zlon v fun x => f (.long x)
  | 2 => zref v fun x => f (.ref x)
  | 3 => zref v fun x => bif Nat.ble 1000 x && Nat.ble x 1009 then f (.ref x) else none
  | k + 4 => zref v fun x => zobj zC s x k (f (.ref x))
/-- arguments off the stack, by their kinds, the last first -/
def zpop (s : Sg) (fs : List Nat) (st acc : List Value) (f : List Value → List Value → Rs) : Rs := match fs with
  | [] => f acc st
  | k :: fs => match st with
    | v :: r => zfor zC s k v fun u => zpop s fs r (u :: acc) f
    | [] => none
def zidx (i : Int32) (n : Nat) (f : Nat → Rs) : Rs := if 0 ≤ i ∧ i.toNatClampNeg < n then f i.toNatClampNeg else none
def zarr (s : Sg) (q c : Nat) (i : Int32) (f : Nat → Rs) : Rs := zobj zC s q c (zidx i (zN q) f)
def zboo (x : Int32) (f : Rs) : Rs := if x = 0 ∨ x = 1 then f else none
def zgf (s : Sg) (v : Value) (a : List Nat) (f : Value → Rs) : Rs := match a with
  | kd :: c :: j :: _ => zref v fun q => zobj zC s q c (match kd with
    | 0 => f (.int (s.2.2.2.1 q j))
    | 1 => f (.long (s.2.2.2.2 q j))
    | 2 => f (zr (s.2.1 q j))
    | 3 => f (zr (s.2.2.1 q j))
    | _ => f (.int (s.2.2.2.1 q j)))
  | _ => none
def zpf (s : Sg) (v w : Value) (a : List Nat) (f : Sg → Rs) : Rs := match a with
  | kd :: c :: j :: _ => zref v fun q => zobj zC s q c (match kd with
    | 0 => zint w fun x => f (s.1, s.2.1, s.2.2.1, z2 s.2.2.2.1 q j x, s.2.2.2.2)
    | 1 => zlon w fun x => f (s.1, s.2.1, s.2.2.1, s.2.2.2.1, z2 s.2.2.2.2 q j x)
    | 2 => znul w fun x => f (s.1, z2 s.2.1 q j x, s.2.2.1, s.2.2.2.1, s.2.2.2.2)
    | 3 => znul w fun x => f (s.1, s.2.1, z2 s.2.2.1 q j x, s.2.2.2.1, s.2.2.2.2)
    | _ => zint w fun x => zboo x (f (s.1, s.2.1, s.2.2.1, z2 s.2.2.2.1 q j x, s.2.2.2.2)))
  | _ => none
/-- a new cell: of class c, with n places -/
def znew (s : Sg) (c n : Nat) (f : Nat → Sg → Rs) : Rs := bif Nat.beq s.1.2.1 0 && (Nat.beq (zC s.1.1) c && (Nat.beq (zN s.1.1) n && Nat.blt c 99)) then
  f s.1.1 ((s.1.1 + 1, s.1.2.1, s.1.2.2 + n), va_up s.2.1 s.1.1 (fun _ => none), va_up s.2.2.1 s.1.1 (fun _ => none), va_up s.2.2.2.1 s.1.1 (fun _ => 0), va_up s.2.2.2.2 s.1.1 (fun _ => 0)) else none
/-- m new cells of n ints each, the references to them in a row of the cell q from j on -/
def zrow (q n : Nat) (m j : Nat) (s : Sg) (f : Sg → Rs) : Rs := match m with
  | 0 => f s
  | m + 1 => znew zC zN s 20 n fun r s => zrow q n m (j + 1) (s.1, z2 s.2.1 q j (some r), s.2.2.1, s.2.2.2.1, s.2.2.2.2) f
/-- n places from i of the ints of the cell p to those of the cell q from j on -/
def zcpy (f : Nat → Nat → Int32) (p i q j n : Nat) : Nat → Nat → Int32 := va_up f q (va_cpy (f p) (f q) i j n)
def zkey (c : Int64) : Option Nat := if c = 60492506 then some 1000 else if c = 67154904 then some 1001 else if c = 257 then some 1002 else if c = 7542361 then some 1003 else if c = 423 then some 1004 else if c = 9520 then some 1005 else if c = 243140 then some 1006 else if c = 5258 then some 1007 else if c = 144941 then some 1008 else if c = 1420859 then some 1009 else none
def ztxt (k : Nat) : Int64 := match k with
  | 1020 => 110386941092709
  | 1021 => 110442558416242
  | 1022 => 26990
  | 1023 => 474147546227
  | 1024 => 28530
  | 1025 => 7168368
  | 1026 => 1818848869
  | 1027 => 6776180
  | 1028 => 1734964837
  | _ => 422826041707
/-- a call: by the method's number (250 on: what is not walked here) -/
def zcal (call : Nat → List Value → Sg → Rs) (mL : Nat → Nat) (a : List Nat) (n : Nat) (xs st : List Value) (s : Sg) (k : Kn) : Rs := match a with
  | kd :: mi :: _ :: fs => zpop zC s fs st [] fun as r => bif zok r then (match kd with
    | 0 => zcV (call mi (zpad (mL mi) (zlay as)) s) fun s => k n xs r s
    | 1 => zcI (call mi (zpad (mL mi) (zlay as)) s) fun x s => k n xs (.int x :: r) s
    | 2 => zcL (call mi (zpad (mL mi) (zlay as)) s) fun x s => k n xs (.long x :: r) s
    | 3 => zcR (call mi (zpad (mL mi) (zlay as)) s) fun x s => k n xs (.ref x :: r) s
    | 4 => match as with
      | [v, w, x, y, z] => zref v fun p => zint w fun i => zref x fun q => zint y fun j => zint z fun m =>
        zobj zC s p 20 (zobj zC s q 20 (if 0 ≤ i ∧ 0 ≤ j ∧ 0 ≤ m ∧ i.toNatClampNeg + m.toNatClampNeg ≤ zN p ∧ j.toNatClampNeg + m.toNatClampNeg ≤ zN q then k n xs r (s.1, s.2.1, s.2.2.1, zcpy s.2.2.2.1 p i.toNatClampNeg q j.toNatClampNeg m.toNatClampNeg, s.2.2.2.2) else none))
      | _ => none
    | 5 => match as with
      | [v] => zlon v fun c => k n xs (zr (zkey c) :: r) s
      | _ => none
    | 6 => match as with
      | [v] => zref v fun q => bif Nat.ble 1020 q && Nat.ble q 1029 then k n xs (.long (ztxt q) :: r) s else none
      | _ => none
    | 7 => match as with
      | [_] => k n xs r s
      | _ => none
    | 8 => match as with
      | [v, w, x, y] => zref v fun q => zint w fun i => zint x fun h => zref y fun o => zobj zC s q 7 (zobj zC s o 21 (match s.2.1 q 2 with
        | none => none
        | some j => zobj zC s j 1 (if i < 0 ∨ s.2.2.2.1 j 3 ≤ i ∨ h < 0 ∨ 2 < h then k n xs (.int 1 :: r) ((s.1.1, s.1.2.1 + 1, s.1.2.2 + 6), s.2)
          else zcI (call mi (zpad (mL mi) [.ref j, .int i, .int h]) s) fun x s => zobj zC s o 21 (k n xs (.int 0 :: r) (s.1, s.2.1, s.2.2.1, s.2.2.2.1, z2 s.2.2.2.2 o 0 x.toInt64)))))
      | _ => none
    | _ => none) else none
  | _ => none
def stp (call : Nat → List Value → Sg → Rs) (mL : Nat → Nat) (op : Op) (xs st : List Value) (s : Sg) (k : Kn) : Rs := match op.1 with
  | .iconst _ | .bipush _ | .sipush _ => k op.2.1 xs (.int op.2.2.2 :: st) s
  | .ldc _ | .ldc_w _ => match op.2.2.1 with
    | q :: _ => bif Nat.beq q 0 then k op.2.1 xs (.int op.2.2.2 :: st) s else k op.2.1 xs (.ref q :: st) s
    | [] => none
  | .lconst _ | .ldc2_w _ => match op.2.2.1 with
    | q :: _ => k op.2.1 xs (.long (lN q) :: st) s
    | [] => none
  | .getstatic _ => match op.2.2.1 with
    | q :: _ => k op.2.1 xs (.ref q :: st) s
    | [] => none
  | .aconst_null => k op.2.1 xs (.null :: st) s
  | .iload _ | .iload_n _ => za1 op.2.2.1 fun j => zld xs j fun v => zint v fun x => k op.2.1 xs (.int x :: st) s
  | .lload _ | .lload_n _ => za1 op.2.2.1 fun j => zld xs j fun v => zlon v fun x => k op.2.1 xs (.long x :: st) s
  | .aload _ | .aload_n _ => za1 op.2.2.1 fun j => zld xs j fun v => zref v fun x => k op.2.1 xs (.ref x :: st) s
  | .istore _ | .istore_n _ => za1 op.2.2.1 fun j => zi1 st fun x r => zst xs j (.int x) fun ys => k op.2.1 ys r s
  | .lstore _ | .lstore_n _ => za1 op.2.2.1 fun j => zp1 st fun v r => zlon v fun x => zst2 xs j (.long x) fun ys => k op.2.1 ys r s
  | .astore _ | .astore_n _ => za1 op.2.2.1 fun j => zp1 st fun v r => zref v fun x => zst xs j (.ref x) fun ys => k op.2.1 ys r s
  | .iinc _ _ => za1 op.2.2.1 fun j => zld xs j fun v => zint v fun x => zst xs j (.int (x + op.2.2.2)) fun ys => k op.2.1 ys st s
  | .iadd => zi2 st fun x y r => k op.2.1 xs (.int (x + y) :: r) s
  | .isub => zi2 st fun x y r => k op.2.1 xs (.int (x - y) :: r) s
  | .imul => zi2 st fun x y r => k op.2.1 xs (.int (x * y) :: r) s
  | .iand => zi2 st fun x y r => k op.2.1 xs (.int (x &&& y) :: r) s
  | .ior => zi2 st fun x y r => k op.2.1 xs (.int (x ||| y) :: r) s
  | .ixor => zi2 st fun x y r => k op.2.1 xs (.int (x ^^^ y) :: r) s
  | .ishl => zi2 st fun x y r => k op.2.1 xs (.int (x <<< (y &&& 31)) :: r) s
  | .ishr => zi2 st fun x y r => k op.2.1 xs (.int (x >>> (y &&& 31)) :: r) s
  | .iushr => zi2 st fun x y r => k op.2.1 xs (.int (x.toUInt32 >>> (y.toUInt32 &&& Int32.toUInt32 31)).toInt32 :: r) s
  | .ineg => zi1 st fun x r => k op.2.1 xs (.int (-x) :: r) s
  | .ladd => zl2 st fun x y r => k op.2.1 xs (.long (x + y) :: r) s
  | .lmul => zl2 st fun x y r => k op.2.1 xs (.long (x * y) :: r) s
  | .land => zl2 st fun x y r => k op.2.1 xs (.long (x &&& y) :: r) s
  | .lor => zl2 st fun x y r => k op.2.1 xs (.long (x ||| y) :: r) s
  | .lshl => zli st fun x y r => k op.2.1 xs (.long (x <<< (y.toInt64 &&& 63)) :: r) s
  | .lshr => zli st fun x y r => k op.2.1 xs (.long (x >>> (y.toInt64 &&& 63)) :: r) s
  | .lushr => zli st fun x y r => k op.2.1 xs (.long (x.toUInt64 >>> (y.toInt64.toUInt64 &&& Int64.toUInt64 63)).toInt64 :: r) s
  | .i2l => zi1 st fun x r => k op.2.1 xs (.long x.toInt64 :: r) s
  | .l2i => zp1 st fun v r => zlon v fun x => k op.2.1 xs (.int x.toInt32 :: r) s
  | .i2b => zi1 st fun x r => k op.2.1 xs (.int x.toInt8.toInt32 :: r) s
  | .lcmp => zl2 st fun x y r => k op.2.1 xs (.int (lg_cmp x y) :: r) s
  | .goto _ => za1 op.2.2.1 fun t => k t xs st s
  | .ifCond .eq _ => za1 op.2.2.1 fun t => zi1 st fun x r => if x = 0 then k t xs r s else k op.2.1 xs r s
  | .ifCond .ne _ => za1 op.2.2.1 fun t => zi1 st fun x r => if x = 0 then k op.2.1 xs r s else k t xs r s
  | .ifCond .lt _ => za1 op.2.2.1 fun t => zi1 st fun x r => if x < 0 then k t xs r s else k op.2.1 xs r s
  | .ifCond .ge _ => za1 op.2.2.1 fun t => zi1 st fun x r => if 0 ≤ x then k t xs r s else k op.2.1 xs r s
  | .ifCond .gt _ => za1 op.2.2.1 fun t => zi1 st fun x r => if 0 < x then k t xs r s else k op.2.1 xs r s
  | .ifCond .le _ => za1 op.2.2.1 fun t => zi1 st fun x r => if x ≤ 0 then k t xs r s else k op.2.1 xs r s
  | .if_icmp .eq _ => za1 op.2.2.1 fun t => zi2 st fun x y r => if x = y then k t xs r s else k op.2.1 xs r s
  | .if_icmp .ne _ => za1 op.2.2.1 fun t => zi2 st fun x y r => if x = y then k op.2.1 xs r s else k t xs r s
  | .if_icmp .lt _ => za1 op.2.2.1 fun t => zi2 st fun x y r => if x < y then k t xs r s else k op.2.1 xs r s
  | .if_icmp .ge _ => za1 op.2.2.1 fun t => zi2 st fun x y r => if y ≤ x then k t xs r s else k op.2.1 xs r s
  | .if_icmp .gt _ => za1 op.2.2.1 fun t => zi2 st fun x y r => if y < x then k t xs r s else k op.2.1 xs r s
  | .if_icmp .le _ => za1 op.2.2.1 fun t => zi2 st fun x y r => if x ≤ y then k t xs r s else k op.2.1 xs r s
  | .if_acmp .eq _ => za1 op.2.2.1 fun t => zp2 st fun v w r => znuk v fun x => znuk w fun y => if x = y then k t xs r s else k op.2.1 xs r s
  | .if_acmp .ne _ => za1 op.2.2.1 fun t => zp2 st fun v w r => znuk v fun x => znuk w fun y => if x = y then k op.2.1 xs r s else k t xs r s
  | .ifnull _ => za1 op.2.2.1 fun t => zp1 st fun v r => znul v fun x => if x = none then k t xs r s else k op.2.1 xs r s
  | .ifnonnull _ => za1 op.2.2.1 fun t => zp1 st fun v r => znul v fun x => if x = none then k op.2.1 xs r s else k t xs r s
  | .tableswitch _ _ _ _ => match op.2.2.1 with
    | d :: ts => zi1 st fun x r => zsw x d ts 0 fun t => k t xs r s
    | [] => none
  | .getfield _ => zp1 st fun v r => zgf zC s v op.2.2.1 fun w => k op.2.1 xs (w :: r) s
  | .putfield _ => zp2 st fun v w r => zpf zC s v w op.2.2.1 fun s => k op.2.1 xs r s
  | .iaload => zp2 st fun v w r => zref v fun q => zint w fun i => match op.2.2.1 with
    | [] => zarr zC zN s q 20 i fun j => k op.2.1 xs (.int (s.2.2.2.1 q j) :: r) s
    | _ => bif Nat.beq q 2000 then zidx i ρ.1 fun j => k op.2.1 xs (.int (ρ.2 j) :: r) s else none
  | .laload => zp2 st fun v w r => zref v fun q => zint w fun i => zarr zC zN s q 21 i fun j => k op.2.1 xs (.long (s.2.2.2.2 q j) :: r) s
  | .baload => zp2 st fun v w r => zref v fun q => zint w fun i => zarr zC zN s q 22 i fun j => k op.2.1 xs (.int (s.2.2.2.1 q j) :: r) s
  | .aaload => zp2 st fun v w r => zref v fun q => zint w fun i => match op.2.2.1 with
    | 23 :: _ => zarr zC zN s q 23 i fun j => k op.2.1 xs (zr (s.2.1 q j) :: r) s
    | 24 :: _ => zarr zC zN s q 24 i fun j => k op.2.1 xs (zr (s.2.1 q j) :: r) s
    | _ => zarr zC zN s q 25 i fun j => k op.2.1 xs (zr (s.2.2.1 q j) :: r) s
  | .iastore => zp3 st fun u v w r => zref u fun q => zint v fun i => zint w fun x => zarr zC zN s q 20 i fun j => k op.2.1 xs r (s.1, s.2.1, s.2.2.1, z2 s.2.2.2.1 q j x, s.2.2.2.2)
  | .bastore => zp3 st fun u v w r => zref u fun q => zint v fun i => zint w fun x => zarr zC zN s q 22 i fun j => k op.2.1 xs r (s.1, s.2.1, s.2.2.1, z2 s.2.2.2.1 q j x.toInt8.toInt32, s.2.2.2.2)
  | .lastore => zp3 st fun u v w r => zref u fun q => zint v fun i => zlon w fun x => zarr zC zN s q 21 i fun j => k op.2.1 xs r (s.1, s.2.1, s.2.2.1, s.2.2.2.1, z2 s.2.2.2.2 q j x)
  | .aastore => zp3 st fun u v w r => zref u fun q => zint v fun i => zref w fun x => match op.2.2.1 with
    | 24 :: _ => zobj zC s x 0 (zarr zC zN s q 24 i fun j => k op.2.1 xs r (s.1, z2 s.2.1 q j (some x), s.2.2.1, s.2.2.2.1, s.2.2.2.2))
    | _ => bif Nat.ble 1000 x && Nat.ble x 1009 then zarr zC zN s q 25 i fun j => k op.2.1 xs r (s.1, s.2.1, z2 s.2.2.1 q j (some x), s.2.2.2.1, s.2.2.2.2) else none
  | .arraylength => zp1 st fun v r => zref v fun q => match op.2.2.1 with
    | [] => bif Nat.blt q s.1.1 && Nat.ble 20 (zC q) then k op.2.1 xs (.int (nI (zN q)) :: r) s else none
    | _ => bif Nat.beq q 2000 then k op.2.1 xs (.int (nI ρ.1) :: r) s else none
  | .dup => zp1 st fun v r => zdup v fun w => k op.2.1 xs (w :: w :: r) s
  | .dup2 => zp2 st fun v w r => zref v fun q => zint w fun x => k op.2.1 xs (.int x :: .ref q :: .int x :: .ref q :: r) s
  | .pop => zi1 st fun _ r => k op.2.1 xs r s
  | .new _ => match op.2.2.1 with
    | c :: n :: _ => znew zC zN s c n fun q s => k op.2.1 xs (.ref q :: st) s
    | _ => none
  | .newarray _ => match op.2.2.1 with
    | c :: _ => zi1 st fun x r => if 0 ≤ x then znew zC zN s c x.toNatClampNeg fun q s => k op.2.1 xs (.ref q :: r) s else none
    | _ => none
  | .anewarray _ => match op.2.2.1 with
    | c :: _ => zi1 st fun x r => if 0 ≤ x then znew zC zN s c x.toNatClampNeg fun q s => k op.2.1 xs (.ref q :: r) s else none
    | _ => none
  | .multianewarray _ _ => zi2 st fun x y r => if 0 ≤ x ∧ 0 ≤ y then znew zC zN s 23 x.toNatClampNeg fun q s => zrow zC zN q y.toNatClampNeg x.toNatClampNeg 0 s fun s => k op.2.1 xs (.ref q :: r) s else none
  | .invokevirtual _ | .invokestatic _ | .invokespecial _ => zcal zC zN call mL op.2.2.1 op.2.1 xs st s k
  | .ireturn => match st with
    | [.int x] => match op.2.2.1 with
      | [] => some ([.int x], s)
      | _ => zboo x (some ([.int x], s))
    | _ => none
  | .lreturn => match st with
    | [.long x] => some ([.long x], s)
    | _ => none
  | .areturn => match st with
    | [.ref x] => some ([.ref x], s)
    | _ => none
  | .return_ => match st with
    | [] => some ([], s)
    | _ => none
  | _ => none
end
