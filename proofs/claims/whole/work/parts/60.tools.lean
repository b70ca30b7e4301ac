-- TOOLS of the pure part; bt, b_ext .. b_sshr: out of BITS.to-paste
def bt (x : Int32) (i : Nat) : Bool := x.toBitVec.getLsbD i
theorem b_ext {x y : Int32} (h : ∀ i, i < 32 → bt x i = bt y i) : x = y := Int32.toBitVec_inj.mp (BitVec.eq_of_getLsbD_eq (fun i hi => h i hi))
theorem b_or (x y : Int32) (i : Nat) : bt (x ||| y) i = (bt x i || bt y i) := by unfold bt; rw [Int32.toBitVec_or, BitVec.getLsbD_or]
theorem b_and (x y : Int32) (i : Nat) : bt (x &&& y) i = (bt x i && bt y i) := by unfold bt; rw [Int32.toBitVec_and, BitVec.getLsbD_and]
theorem b_xor (x y : Int32) (i : Nat) : bt (x ^^^ y) i = (bt x i ^^ bt y i) := by unfold bt; rw [Int32.toBitVec_xor, BitVec.getLsbD_xor]
theorem b_big {x : Int32} {i : Nat} (h : 32 ≤ i) : bt x i = false := BitVec.getLsbD_of_ge _ _ h
theorem b_255 (i : Nat) : bt 255 i = decide (i < 8) := by
  rcases Nat.lt_or_ge i 32 with h | h
  · exact (by decide +kernel : ∀ i, i < 32 → bt 255 i = decide (i < 8)) i h
  · rw [b_big h, decide_eq_false (by omega)]
theorem b_65535 (i : Nat) : bt 65535 i = decide (i < 16) := by
  rcases Nat.lt_or_ge i 32 with h | h
  · exact (by decide +kernel : ∀ i, i < 32 → bt 65535 i = decide (i < 16)) i h
  · rw [b_big h, decide_eq_false (by omega)]
theorem b_m1 : ∀ i, i < 32 → bt (-1) i = true := by decide +kernel
theorem b_0 (i : Nat) : bt 0 i = false := BitVec.getLsbD_zero
theorem s_l : ∀ n, n < 32 → ((nI n &&& 31).toBitVec.smod 32).toNat = n := by decide +kernel
theorem s_u : ∀ n, n < 32 → (((nI n).toUInt32 &&& Int32.toUInt32 31).toBitVec % 32).toNat = n := by decide +kernel
theorem b_shl (n : Nat) (hn : n < 32) (x : Int32) {i : Nat} (hi : i < 32) : bt (x <<< (nI n &&& 31)) i = (decide (n ≤ i) && bt x (i - n)) := by
  unfold bt
  rw [Int32.toBitVec_shiftLeft]
  show (x.toBitVec <<< ((nI n &&& 31).toBitVec.smod 32).toNat).getLsbD i = _
  rw [s_l n hn, BitVec.getLsbD_shiftLeft]
  rcases Nat.lt_or_ge i n with h | h
  · simp [h, Nat.not_le.mpr h]
  · simp [hi, h, Nat.not_lt.mpr h]
theorem b_ushr (n : Nat) (hn : n < 32) (x : Int32) (i : Nat) : bt ((x.toUInt32 >>> ((nI n).toUInt32 &&& Int32.toUInt32 31)).toInt32) i = bt x (n + i) := by
  show (x.toUInt32 >>> ((nI n).toUInt32 &&& Int32.toUInt32 31)).toBitVec.getLsbD i = x.toUInt32.toBitVec.getLsbD (n + i)
  rw [UInt32.toBitVec_shiftRight]
  show (x.toUInt32.toBitVec >>> (((nI n).toUInt32 &&& Int32.toUInt32 31).toBitVec % 32).toNat).getLsbD i = _
  rw [s_u n hn, BitVec.getLsbD_ushiftRight]
theorem b_sshr (n : Nat) (hn : n < 32) (x : Int32) {i : Nat} (hi : i < 32) : bt (x >>> (nI n &&& 31)) i = if n + i < 32 then bt x (n + i) else bt x 31 := by
  unfold bt
  rw [Int32.toBitVec_shiftRight]
  show (x.toBitVec.sshiftRight ((nI n &&& 31).toBitVec.smod 32).toNat).getLsbD i = _
  rw [s_l n hn, BitVec.getLsbD_sshiftRight, BitVec.msb_eq_getLsbD_last]
  simp [hi]

theorem b_bit {k : Nat} (hk : k < 32) (j : Nat) : bt (nI 1 <<< (nI k &&& 31)) j = decide (j = k) := by
  by_cases hj : j < 32
  · rw [b_shl k hk _ hj]
    have h1 : ∀ i, i < 32 → bt (nI 1) i = decide (i = 0) := by decide +kernel
    by_cases h : k ≤ j
    · rw [h1 _ (by omega)]
      by_cases e : j = k
      · subst e; simp
      · have : ¬ j - k = 0 := by omega
        simp [h, e, this]
    · have : ¬ j = k := by omega
      simp [h, this]
  · rw [b_big (by omega)]
    have : ¬ j = k := by omega
    simp [this]
theorem b_n1 (S : Int32) : S &&& nI 1 = nI 1 ↔ bt S 0 = true := by
  have h1 : ∀ i, i < 32 → bt (nI 1) i = decide (i = 0) := by decide +kernel
  constructor
  · intro h
    have h2 : bt (S &&& nI 1) 0 = bt (nI 1) 0 := by rw [h]
    rw [b_and, h1 0 (by omega)] at h2
    simpa using h2
  · intro h
    refine b_ext fun i hi => ?_
    rw [b_and, h1 i hi]
    by_cases e : i = 0
    · subst e; simp [h]
    · simp [e]
theorem b_n0 (S : Int32) : S &&& nI 1 = 0 ↔ bt S 0 = false := by
  have h1 : ∀ i, i < 32 → bt (nI 1) i = decide (i = 0) := by decide +kernel
  constructor
  · intro h
    have h2 : bt (S &&& nI 1) 0 = bt 0 0 := by rw [h]
    rw [b_and, h1 0 (by omega), b_0] at h2
    simpa using h2
  · intro h
    refine b_ext fun i hi => ?_
    rw [b_and, h1 i hi, b_0]
    by_cases e : i = 0
    · subst e; simp [h]
    · simp [e]
/-- a bit of a set -/
theorem hs_b {k : Nat} (hk : k < 32) (S : Int32) : ((S >>> (nI k &&& 31)) &&& nI 1 = nI 1) ↔ bt S k = true := by
  rw [b_n1, b_sshr k hk S (by omega), if_pos (by omega)]; rfl
theorem hs_0 {k : Nat} (hk : k < 32) (S : Int32) : ((S >>> (nI k &&& 31)) &&& nI 1 = 0) ↔ bt S k = false := by
  rw [b_n0, b_sshr k hk S (by omega), if_pos (by omega)]; rfl
/-- a number or none -/
def eO (o : Option Nat) : Int32 := match o with
  | none => -1
  | some k => nI k
theorem eO_n : eO none = -1 := rfl
theorem eO_s (k : Nat) : eO (some k) = nI k := rfl
theorem nI_m1 {k : Nat} (h : k < 2 ^ 31) : ¬ nI k = -1 := by
  intro e
  have h1 := nI_pos (n := k) h
  rw [e] at h1
  exact h1 (by decide)
theorem m1_nI {k : Nat} (h : k < 2 ^ 31) : ¬ -1 = nI k := fun e => nI_m1 h e.symm
theorem eO_lt {o : Option Nat} (h : ∀ k, o = some k → k < 2 ^ 31) : eO o < 0 ↔ o = none := by
  cases o with
  | none => simp [eO]
  | some k => simp [eO]; exact Int32.not_lt.mp (nI_pos (h k rfl))
theorem eO_ge {o : Option Nat} (h : ∀ k, o = some k → k < 2 ^ 31) : 0 ≤ eO o ↔ o ≠ none := by
  cases o with
  | none => simp [eO]
  | some k => simp [eO]; exact nI_pos' (h k rfl)
theorem eO_m {o : Option Nat} (h : ∀ k, o = some k → k < 2 ^ 31) : eO o = -1 ↔ o = none := by
  cases o with
  | none => simp [eO]
  | some k => simp [eO]; exact nI_m1 (h k rfl)
theorem eO_i {o : Option Nat} {j : Nat} (h : ∀ k, o = some k → k < 2 ^ 31) (hj : j < 2 ^ 31) : eO o = nI j ↔ o = some j := by
  cases o with
  | none => simp [eO]; exact m1_nI hj
  | some k => simp [eO]; exact nI_eq (h k rfl) hj
theorem zidx_n {a n : Nat} {f : Nat → Rs} (h : a < n) (hn : n < 2 ^ 31) : zidx (nI a) n f = f a := by
  have h3 : a < 2 ^ 31 := Nat.lt_trans h hn
  unfold zidx
  rw [nI_clamp h3, if_pos ⟨nI_pos' h3, h⟩]
theorem zrs {q : Nat} {f : Nat → Rs} : zref (zr (some q)) f = f q := rfl
theorem zrv {q : Nat} {f : Nat → Rs} : zref (.ref q) f = f q := rfl
theorem zrk {q : Nat} {f : Option Nat → Rs} (h1 : 1000 ≤ q) (h2 : q ≤ 1009) : znuk (zr (some q)) f = f (some q) := by
  show (bif Nat.ble 1000 q && Nat.ble q 1009 then f (some q) else none) = _
  rw [Nat.ble_eq_true_of_le h1, Nat.ble_eq_true_of_le h2]; rfl
theorem zci {x : Int32} {s : Sg} {f : Int32 → Sg → Rs} : zcI (some ([.int x], s)) f = f x s := rfl
theorem zcl {x : Int64} {s : Sg} {f : Int64 → Sg → Rs} : zcL (some ([.long x], s)) f = f x s := rfl
theorem zcr {x : Nat} {s : Sg} {f : Nat → Sg → Rs} : zcR (some ([.ref x], s)) f = f x s := rfl
theorem zcv {s : Sg} {f : Sg → Rs} : zcV (some ([], s)) f = f s := rfl
theorem zb0 {f : Rs} : zboo (nI 0) f = f := rfl
theorem zb1 {f : Rs} : zboo (nI 1) f = f := rfl
def bo (b : Bool) : Int32 := nI b.toNat
theorem zbb {b : Bool} {f : Rs} : zboo (bo b) f = f := by cases b <;> rfl
theorem bo0 {b : Bool} : bo b = 0 ↔ b = false := by cases b <;> decide
theorem bo1 {b : Bool} : bo b = nI 1 ↔ b = true := by cases b <;> decide
theorem n00 : (nI 0 = 0) = True := by decide
theorem n10 : (nI 1 = 0) = False := by decide
def okc (q c : Nat) : Bool := Nat.blt q 281 && Nat.beq (zC q) c
def oka (q c n : Nat) : Bool := okc q c && Nat.beq (zN q) n
theorem zob {c : Nat × Nat} {R : Nat → Nat → Option Nat} {I : Nat → Nat → Int32} {L : Nat → Nat → Int64} {q k : Nat} {f : Rs} (h : okc q k = true) : zobj zC (mk c R I L) q k f = f := by
  show (bif okc q k then f else none) = f
  rw [h]; rfl
theorem zar {c : Nat × Nat} {R : Nat → Nat → Option Nat} {I : Nat → Nat → Int32} {L : Nat → Nat → Int64} {q k n : Nat} {i : Int32} {f : Nat → Rs} (h : oka q k n = true) : zarr zC zN (mk c R I L) q k i f = zidx i n f := by
  unfold oka at h
  rw [Bool.and_eq_true] at h
  show zobj zC (mk c R I L) q k (zidx i (zN q) f) = _
  rw [zob h.1, Nat.eq_of_beq_eq_true h.2]
theorem z2a {α : Type} (f : Nat → Nat → α) (k j : Nat) (v : α) (a b : Nat) : z2 f k j v a b = if a = k ∧ b = j then v else f a b := by
  unfold z2 va_up
  by_cases h : a = k
  · subst h
    by_cases h2 : b = j
    · simp [h2]
    · simp [h2]
  · simp [h]
/-- nothing but the cells of l has changed -/
def Eo (l : List Nat) (I J : Nat → Nat → Int32) : Prop := ∀ k, k ∉ l → J k = I k
theorem Eo.rf {l : List Nat} {I : Nat → Nat → Int32} : Eo l I I := fun _ _ => rfl
theorem Eo.tr {l : List Nat} {I J K : Nat → Nat → Int32} (h : Eo l I J) (h2 : Eo l J K) : Eo l I K := fun k hk => (h2 k hk).trans (h k hk)
theorem Eo.z2 {l : List Nat} {I J : Nat → Nat → Int32} {q j : Nat} {v : Int32} (h : Eo l I J) (hq : q ∈ l) : Eo l I (z2 J q j v) := fun k hk => by
  rw [← h k hk]
  exact z2_ne (fun e => hk (e ▸ hq))
theorem Eo.mo {l m : List Nat} {I J : Nat → Nat → Int32} (h : Eo l I J) (hs : ∀ k, k ∈ l → k ∈ m) : Eo m I J := fun k hk => h k (fun z => hk (hs k z))
/-- a Row: an object at q, its items at q + 1 -/
def isRw (q : Nat) : Prop := okc q 5 = true ∧ FC q 0 = some (q + 1) ∧ oka (q + 1) 20 12 = true ∧ okc (q + 1) 20 = true ∧ zN (q + 1) = 12
def RowIs (I : Nat → Nat → Int32) (q : Nat) (l : List Nat) : Prop := I q 1 = nI l.length ∧ l.length ≤ 12 ∧ ∀ i v, l[i]? = some v → I (q + 1) i = nI v
def bitsL (l : List Nat) : Int32 := l.foldl (fun a k => a ||| (nI 1 <<< (nI k &&& 31))) (nI 0)
theorem bt_foldl {j : Nat} : ∀ (l : List Nat) (a : Int32), (∀ k ∈ l, k < 32) → bt (l.foldl (fun a k => a ||| (nI 1 <<< (nI k &&& 31))) a) j = (bt a j || decide (j ∈ l)) := by
  intro l
  induction l with
  | nil => intro a _; simp
  | cons k l ih =>
    intro a h
    rw [List.foldl_cons, ih _ (fun x hx => h x (List.mem_cons_of_mem _ hx)), b_or, b_bit (h k List.mem_cons_self)]
    simp [Bool.or_assoc, List.mem_cons]
theorem bt_bits {l : List Nat} {j : Nat} (h : ∀ k ∈ l, k < 32) : bt (bitsL l) j = decide (j ∈ l) := by
  unfold bitsL
  rw [bt_foldl l _ h]
  have : bt (nI 0) j = false := b_0 j
  rw [this]; rfl

def isB (b : Nat) : Prop := b = 86 ∨ b = 107 ∨ b = 125 ∨ b = 143 ∨ b = 161 ∨ b = 179 ∨ b = 197 ∨ b = 215 ∨ b = 233
def jo (b : Nat) : Nat := if b = 86 then 8 else 104
theorem xb_o {b : Nat} (hb : isB b) : okc b 0 = true := by rcases hb with rfl | rfl | rfl | rfl | rfl | rfl | rfl | rfl | rfl <;> rfl
theorem xb_F1 {b : Nat} (hb : isB b) : FC b 1 = some (jo b) := by rcases hb with rfl | rfl | rfl | rfl | rfl | rfl | rfl | rfl | rfl <;> rfl
theorem xb_oj {b : Nat} (hb : isB b) : okc (jo b) 1 = true := by rcases hb with rfl | rfl | rfl | rfl | rfl | rfl | rfl | rfl | rfl <;> rfl
theorem xb_F2 {b : Nat} (hb : isB b) : FC b 2 = some (b + 1) := by rcases hb with rfl | rfl | rfl | rfl | rfl | rfl | rfl | rfl | rfl <;> rfl
theorem xb_F3 {b : Nat} (hb : isB b) : FC b 3 = some (b + 2) := by rcases hb with rfl | rfl | rfl | rfl | rfl | rfl | rfl | rfl | rfl <;> rfl
theorem xb_F4 {b : Nat} (hb : isB b) : FC b 4 = some (b + 3) := by rcases hb with rfl | rfl | rfl | rfl | rfl | rfl | rfl | rfl | rfl <;> rfl
theorem xb_F5 {b : Nat} (hb : isB b) : FC b 5 = some (b + 4) := by rcases hb with rfl | rfl | rfl | rfl | rfl | rfl | rfl | rfl | rfl <;> rfl
theorem xb_F6 {b : Nat} (hb : isB b) : FC b 6 = some (b + 5) := by rcases hb with rfl | rfl | rfl | rfl | rfl | rfl | rfl | rfl | rfl <;> rfl
theorem xb_F7 {b : Nat} (hb : isB b) : FC b 7 = some (b + 6) := by rcases hb with rfl | rfl | rfl | rfl | rfl | rfl | rfl | rfl | rfl <;> rfl
theorem xb_F8 {b : Nat} (hb : isB b) : FC b 8 = some (b + 7) := by rcases hb with rfl | rfl | rfl | rfl | rfl | rfl | rfl | rfl | rfl <;> rfl
theorem xb_F9 {b : Nat} (hb : isB b) : FC b 9 = some (b + 8) := by rcases hb with rfl | rfl | rfl | rfl | rfl | rfl | rfl | rfl | rfl <;> rfl
theorem xb_F10 {b : Nat} (hb : isB b) : FC b 10 = some (b + 9) := by rcases hb with rfl | rfl | rfl | rfl | rfl | rfl | rfl | rfl | rfl <;> rfl
theorem xb_F11 {b : Nat} (hb : isB b) : FC b 11 = some (b + 10) := by rcases hb with rfl | rfl | rfl | rfl | rfl | rfl | rfl | rfl | rfl <;> rfl
theorem xb_F12 {b : Nat} (hb : isB b) : FC b 12 = some (b + 12) := by rcases hb with rfl | rfl | rfl | rfl | rfl | rfl | rfl | rfl | rfl <;> rfl
theorem xb_F13 {b : Nat} (hb : isB b) : FC b 13 = some (b + 14) := by rcases hb with rfl | rfl | rfl | rfl | rfl | rfl | rfl | rfl | rfl <;> rfl
theorem xb_F14 {b : Nat} (hb : isB b) : FC b 14 = some (b + 16) := by rcases hb with rfl | rfl | rfl | rfl | rfl | rfl | rfl | rfl | rfl <;> rfl
theorem xb_a1 {b : Nat} (hb : isB b) : oka (b + 1) 20 12 = true := by rcases hb with rfl | rfl | rfl | rfl | rfl | rfl | rfl | rfl | rfl <;> rfl
theorem xb_c1 {b : Nat} (hb : isB b) : okc (b + 1) 20 = true := by rcases hb with rfl | rfl | rfl | rfl | rfl | rfl | rfl | rfl | rfl <;> rfl
theorem xb_n1 {b : Nat} (hb : isB b) : zN (b + 1) = 12 := by rcases hb with rfl | rfl | rfl | rfl | rfl | rfl | rfl | rfl | rfl <;> rfl
theorem xb_a2 {b : Nat} (hb : isB b) : oka (b + 2) 20 12 = true := by rcases hb with rfl | rfl | rfl | rfl | rfl | rfl | rfl | rfl | rfl <;> rfl
theorem xb_c2 {b : Nat} (hb : isB b) : okc (b + 2) 20 = true := by rcases hb with rfl | rfl | rfl | rfl | rfl | rfl | rfl | rfl | rfl <;> rfl
theorem xb_n2 {b : Nat} (hb : isB b) : zN (b + 2) = 12 := by rcases hb with rfl | rfl | rfl | rfl | rfl | rfl | rfl | rfl | rfl <;> rfl
theorem xb_a3 {b : Nat} (hb : isB b) : oka (b + 3) 20 12 = true := by rcases hb with rfl | rfl | rfl | rfl | rfl | rfl | rfl | rfl | rfl <;> rfl
theorem xb_c3 {b : Nat} (hb : isB b) : okc (b + 3) 20 = true := by rcases hb with rfl | rfl | rfl | rfl | rfl | rfl | rfl | rfl | rfl <;> rfl
theorem xb_n3 {b : Nat} (hb : isB b) : zN (b + 3) = 12 := by rcases hb with rfl | rfl | rfl | rfl | rfl | rfl | rfl | rfl | rfl <;> rfl
theorem xb_a4 {b : Nat} (hb : isB b) : oka (b + 4) 20 12 = true := by rcases hb with rfl | rfl | rfl | rfl | rfl | rfl | rfl | rfl | rfl <;> rfl
theorem xb_c4 {b : Nat} (hb : isB b) : okc (b + 4) 20 = true := by rcases hb with rfl | rfl | rfl | rfl | rfl | rfl | rfl | rfl | rfl <;> rfl
theorem xb_n4 {b : Nat} (hb : isB b) : zN (b + 4) = 12 := by rcases hb with rfl | rfl | rfl | rfl | rfl | rfl | rfl | rfl | rfl <;> rfl
theorem xb_a5 {b : Nat} (hb : isB b) : oka (b + 5) 20 12 = true := by rcases hb with rfl | rfl | rfl | rfl | rfl | rfl | rfl | rfl | rfl <;> rfl
theorem xb_c5 {b : Nat} (hb : isB b) : okc (b + 5) 20 = true := by rcases hb with rfl | rfl | rfl | rfl | rfl | rfl | rfl | rfl | rfl <;> rfl
theorem xb_n5 {b : Nat} (hb : isB b) : zN (b + 5) = 12 := by rcases hb with rfl | rfl | rfl | rfl | rfl | rfl | rfl | rfl | rfl <;> rfl
theorem xb_a6 {b : Nat} (hb : isB b) : oka (b + 6) 20 12 = true := by rcases hb with rfl | rfl | rfl | rfl | rfl | rfl | rfl | rfl | rfl <;> rfl
theorem xb_c6 {b : Nat} (hb : isB b) : okc (b + 6) 20 = true := by rcases hb with rfl | rfl | rfl | rfl | rfl | rfl | rfl | rfl | rfl <;> rfl
theorem xb_n6 {b : Nat} (hb : isB b) : zN (b + 6) = 12 := by rcases hb with rfl | rfl | rfl | rfl | rfl | rfl | rfl | rfl | rfl <;> rfl
theorem xb_a7 {b : Nat} (hb : isB b) : oka (b + 7) 20 12 = true := by rcases hb with rfl | rfl | rfl | rfl | rfl | rfl | rfl | rfl | rfl <;> rfl
theorem xb_c7 {b : Nat} (hb : isB b) : okc (b + 7) 20 = true := by rcases hb with rfl | rfl | rfl | rfl | rfl | rfl | rfl | rfl | rfl <;> rfl
theorem xb_n7 {b : Nat} (hb : isB b) : zN (b + 7) = 12 := by rcases hb with rfl | rfl | rfl | rfl | rfl | rfl | rfl | rfl | rfl <;> rfl
theorem xb_a8 {b : Nat} (hb : isB b) : oka (b + 8) 20 16 = true := by rcases hb with rfl | rfl | rfl | rfl | rfl | rfl | rfl | rfl | rfl <;> rfl
theorem xb_c8 {b : Nat} (hb : isB b) : okc (b + 8) 20 = true := by rcases hb with rfl | rfl | rfl | rfl | rfl | rfl | rfl | rfl | rfl <;> rfl
theorem xb_n8 {b : Nat} (hb : isB b) : zN (b + 8) = 16 := by rcases hb with rfl | rfl | rfl | rfl | rfl | rfl | rfl | rfl | rfl <;> rfl
theorem xb_a9 {b : Nat} (hb : isB b) : oka (b + 9) 20 8 = true := by rcases hb with rfl | rfl | rfl | rfl | rfl | rfl | rfl | rfl | rfl <;> rfl
theorem xb_c9 {b : Nat} (hb : isB b) : okc (b + 9) 20 = true := by rcases hb with rfl | rfl | rfl | rfl | rfl | rfl | rfl | rfl | rfl <;> rfl
theorem xb_n9 {b : Nat} (hb : isB b) : zN (b + 9) = 8 := by rcases hb with rfl | rfl | rfl | rfl | rfl | rfl | rfl | rfl | rfl <;> rfl
theorem xb_r10 {b : Nat} (hb : isB b) : isRw (b + 10) := by rcases hb with rfl | rfl | rfl | rfl | rfl | rfl | rfl | rfl | rfl <;> exact ⟨rfl, rfl, rfl, rfl, rfl⟩
theorem xb_r12 {b : Nat} (hb : isB b) : isRw (b + 12) := by rcases hb with rfl | rfl | rfl | rfl | rfl | rfl | rfl | rfl | rfl <;> exact ⟨rfl, rfl, rfl, rfl, rfl⟩
theorem xb_r14 {b : Nat} (hb : isB b) : isRw (b + 14) := by rcases hb with rfl | rfl | rfl | rfl | rfl | rfl | rfl | rfl | rfl <;> exact ⟨rfl, rfl, rfl, rfl, rfl⟩
theorem xb_r16 {b : Nat} (hb : isB b) : isRw (b + 16) := by rcases hb with rfl | rfl | rfl | rfl | rfl | rfl | rfl | rfl | rfl <;> exact ⟨rfl, rfl, rfl, rfl, rfl⟩
theorem xb_ge {b : Nat} (hb : isB b) : 86 ≤ b ∧ b ≤ 233 := by unfold isB at hb; omega
def isP (p : Nat) : Prop := p = 10 ∨ p = 48
theorem xp_o {p : Nat} (hp : isP p) : okc p 3 = true := by rcases hp with rfl | rfl <;> rfl
theorem xp_F3 {p : Nat} (hp : isP p) : FC p 3 = some (p + 1) := by rcases hp with rfl | rfl <;> rfl
theorem xp_F4 {p : Nat} (hp : isP p) : FC p 4 = some (p + 2) := by rcases hp with rfl | rfl <;> rfl
theorem xp_F5 {p : Nat} (hp : isP p) : FC p 5 = some (p + 3) := by rcases hp with rfl | rfl <;> rfl
theorem xp_F6 {p : Nat} (hp : isP p) : FC p 6 = some (p + 4) := by rcases hp with rfl | rfl <;> rfl
theorem xp_F7 {p : Nat} (hp : isP p) : FC p 7 = some (p + 5) := by rcases hp with rfl | rfl <;> rfl
theorem xp_F8 {p : Nat} (hp : isP p) : FC p 8 = some (p + 6) := by rcases hp with rfl | rfl <;> rfl
theorem xp_F9 {p : Nat} (hp : isP p) : FC p 9 = some (p + 7) := by rcases hp with rfl | rfl <;> rfl
theorem xp_F10 {p : Nat} (hp : isP p) : FC p 10 = some (p + 8) := by rcases hp with rfl | rfl <;> rfl
theorem xp_F11 {p : Nat} (hp : isP p) : FC p 11 = some (p + 9) := by rcases hp with rfl | rfl <;> rfl
theorem xp_F12 {p : Nat} (hp : isP p) : FC p 12 = some (p + 10) := by rcases hp with rfl | rfl <;> rfl
theorem xp_F13 {p : Nat} (hp : isP p) : FC p 13 = some (p + 11) := by rcases hp with rfl | rfl <;> rfl
theorem xp_F14 {p : Nat} (hp : isP p) : FC p 14 = some (p + 12) := by rcases hp with rfl | rfl <;> rfl
theorem xp_F15 {p : Nat} (hp : isP p) : FC p 15 = some (p + 13) := by rcases hp with rfl | rfl <;> rfl
theorem xp_F16 {p : Nat} (hp : isP p) : FC p 16 = some (p + 14) := by rcases hp with rfl | rfl <;> rfl
theorem xp_F17 {p : Nat} (hp : isP p) : FC p 17 = some (p + 15) := by rcases hp with rfl | rfl <;> rfl
theorem xp_F18 {p : Nat} (hp : isP p) : FC p 18 = some (p + 24) := by rcases hp with rfl | rfl <;> rfl
theorem xp_F19 {p : Nat} (hp : isP p) : FC p 19 = some (p + 37) := by rcases hp with rfl | rfl <;> rfl
theorem xp_a1 {p : Nat} (hp : isP p) : oka (p + 1) 21 12 = true := by rcases hp with rfl | rfl <;> rfl
theorem xp_a2 {p : Nat} (hp : isP p) : oka (p + 2) 21 8 = true := by rcases hp with rfl | rfl <;> rfl
theorem xp_a3 {p : Nat} (hp : isP p) : oka (p + 3) 21 8 = true := by rcases hp with rfl | rfl <;> rfl
theorem xp_a4 {p : Nat} (hp : isP p) : oka (p + 4) 20 12 = true := by rcases hp with rfl | rfl <;> rfl
theorem xp_a5 {p : Nat} (hp : isP p) : oka (p + 5) 20 12 = true := by rcases hp with rfl | rfl <;> rfl
theorem xp_a6 {p : Nat} (hp : isP p) : oka (p + 6) 20 12 = true := by rcases hp with rfl | rfl <;> rfl
theorem xp_a7 {p : Nat} (hp : isP p) : oka (p + 7) 20 36 = true := by rcases hp with rfl | rfl <;> rfl
theorem xp_a8 {p : Nat} (hp : isP p) : oka (p + 8) 20 12 = true := by rcases hp with rfl | rfl <;> rfl
theorem xp_a9 {p : Nat} (hp : isP p) : oka (p + 9) 20 8 = true := by rcases hp with rfl | rfl <;> rfl
theorem xp_a10 {p : Nat} (hp : isP p) : oka (p + 10) 20 8 = true := by rcases hp with rfl | rfl <;> rfl
theorem xp_a11 {p : Nat} (hp : isP p) : oka (p + 11) 25 48 = true := by rcases hp with rfl | rfl <;> rfl
theorem xp_a12 {p : Nat} (hp : isP p) : oka (p + 12) 20 48 = true := by rcases hp with rfl | rfl <;> rfl
theorem xp_a13 {p : Nat} (hp : isP p) : oka (p + 13) 20 8 = true := by rcases hp with rfl | rfl <;> rfl
theorem xp_a14 {p : Nat} (hp : isP p) : oka (p + 14) 20 8 = true := by rcases hp with rfl | rfl <;> rfl
theorem xp_a15 {p : Nat} (hp : isP p) : oka (p + 15) 23 8 = true := by rcases hp with rfl | rfl <;> rfl
theorem xp_a24 {p : Nat} (hp : isP p) : oka (p + 24) 23 12 = true := by rcases hp with rfl | rfl <;> rfl
theorem xp_a37 {p : Nat} (hp : isP p) : oka (p + 37) 20 12 = true := by rcases hp with rfl | rfl <;> rfl
theorem xp_s {p r : Nat} (hp : isP p) (hr : r < 8) : FC (p + 15) r = some (p + 16 + r) ∧ oka (p + 16 + r) 20 12 = true := by
  rcases hp with rfl | rfl
  · have : ∀ r, r < 8 → FC (10 + 15) r = some (10 + 16 + r) ∧ oka (10 + 16 + r) 20 12 = true := by decide +kernel
    exact this r hr
  · have : ∀ r, r < 8 → FC (48 + 15) r = some (48 + 16 + r) ∧ oka (48 + 16 + r) 20 12 = true := by decide +kernel
    exact this r hr
theorem xp_k {p r : Nat} (hp : isP p) (hr : r < 12) : FC (p + 24) r = some (p + 25 + r) ∧ oka (p + 25 + r) 20 8 = true := by
  rcases hp with rfl | rfl
  · have : ∀ r, r < 12 → FC (10 + 24) r = some (10 + 25 + r) ∧ oka (10 + 25 + r) 20 8 = true := by decide +kernel
    exact this r hr
  · have : ∀ r, r < 12 → FC (48 + 24) r = some (48 + 25 + r) ∧ oka (48 + 25 + r) 20 8 = true := by decide +kernel
    exact this r hr
