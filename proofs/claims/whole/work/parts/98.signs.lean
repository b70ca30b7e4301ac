-- THE TAPE'S SIGNS, WORDS, TOKENS
/-- a byte as the component keeps it -/
def sb (b : Nat) : Int32 := (nI b).toInt8.toInt32
/-- a byte as the reference reads it: 256 is behind the end -/
def rb (c : Nat) : Int32 := if c < 256 then nI c else -1
def isLt (c : Nat) : Bool := decide (97 ≤ c) && decide (c ≤ 122)
def isDg (c : Nat) : Bool := decide (48 ≤ c) && decide (c ≤ 57)
def isSg (c : Nat) : Bool := isLt c || isDg c || (c == 63 || c == 42)
def isBl (c : Nat) : Bool := c == 32 || c == 10
def isAn (c : Nat) : Bool := isLt c || isDg c
/-- neither ? nor * -/
def isLi (c : Nat) : Bool := !(c == 63 || c == 42)
theorem sb_L : ∀ b, b < 256 → ((sb b < nI 97 ∨ nI 122 < sb b) ↔ isLt b = false) := by decide +kernel
theorem sb_D : ∀ b, b < 256 → ((sb b < nI 48 ∨ nI 57 < sb b) ↔ isDg b = false) := by decide +kernel
theorem rb_L : ∀ b, b < 257 → ((rb b < nI 97 ∨ nI 122 < rb b) ↔ isLt b = false) := by decide +kernel
theorem rb_D : ∀ b, b < 257 → ((rb b < nI 48 ∨ nI 57 < rb b) ↔ isDg b = false) := by decide +kernel
theorem sb_e : ∀ k, k ∈ [10, 32, 42, 58, 59, 63] → ∀ b, b < 256 → (sb b = nI k ↔ b = k) := by decide +kernel
theorem rb_e : ∀ k, k ∈ [10, 32, 42, 58, 59, 63] → ∀ b, b < 257 → (rb b = nI k ↔ b = k) := by decide +kernel
theorem sb_n {b : Nat} (h : b < 128) : sb b = nI b := by
  have : ∀ b, b < 128 → sb b = nI b := by decide +kernel
  exact this b h
theorem rb_n {b : Nat} (h : b < 256) : rb b = nI b := if_pos h
/-- a word as a number -/
def cd (B o : Nat) (l : List Nat) : Nat := l.foldl (fun a x => B * a + (x - o)) 0
theorem cd_s (B o : Nat) (l : List Nat) (x : Nat) : cd B o (l ++ [x]) = B * cd B o l + (x - o) := by
  unfold cd
  rw [List.foldl_append]
  rfl
theorem cd_lt {B o : Nat} : ∀ (n : Nat) (l : List Nat), l.length = n → (∀ x ∈ l, x - o < B) → cd B o l < B ^ n := by
  intro n
  induction n with
  | zero => intro l hl _; rw [List.length_eq_zero_iff.mp hl]; exact Nat.one_pos
  | succ n ih =>
    intro l hl h
    rcases List.eq_nil_or_concat l with e | ⟨m, x, e⟩
    · rw [e] at hl; cases hl
    · rw [List.concat_eq_append] at e
      subst e
      rw [List.length_append] at hl
      have h1 := ih m (by simpa using hl) (fun y hy => h y (List.mem_append_left _ hy))
      have h2 := h x (List.mem_append_right _ (List.mem_singleton.mpr rfl))
      rw [cd_s, Nat.pow_succ, Nat.mul_comm (B ^ n) B]
      calc B * cd B o m + (x - o) < B * cd B o m + B := by omega
        _ = B * (cd B o m + 1) := by rw [Nat.mul_add, Nat.mul_one]
        _ ≤ B * B ^ n := Nat.mul_le_mul_left _ h1
theorem cd_inj {B o : Nat} : ∀ (n : Nat) (l m : List Nat), l.length = n → (∀ x ∈ l, o < x ∧ x - o < B) → (∀ x ∈ m, o < x ∧ x - o < B) → cd B o l = cd B o m → l = m := by
  intro n
  induction n with
  | zero =>
    intro l m hl _ hm e
    rw [List.length_eq_zero_iff.mp hl] at e ⊢
    rcases List.eq_nil_or_concat m with e2 | ⟨m', x, e2⟩
    · exact e2.symm
    · rw [List.concat_eq_append] at e2
      subst e2
      have := hm x (List.mem_append_right _ (List.mem_singleton.mpr rfl))
      rw [cd_s] at e
      have e0 : cd B o [] = 0 := rfl
      omega
  | succ n ih =>
    intro l m hl h hm e
    rcases List.eq_nil_or_concat l with e1 | ⟨l', x, e1⟩
    · rw [e1] at hl; cases hl
    rw [List.concat_eq_append] at e1
    subst e1
    have hx := h x (List.mem_append_right _ (List.mem_singleton.mpr rfl))
    rcases List.eq_nil_or_concat m with e2 | ⟨m', y, e2⟩
    · subst e2
      rw [cd_s] at e
      have e0 : cd B o [] = 0 := rfl
      omega
    rw [List.concat_eq_append] at e2
    subst e2
    have hy := hm y (List.mem_append_right _ (List.mem_singleton.mpr rfl))
    rw [List.length_append] at hl
    rw [cd_s, cd_s] at e
    have e3 : (x - o) = (y - o) := by
      have a1 : (B * cd B o l' + (x - o)) % B = x - o := by rw [Nat.mul_add_mod, Nat.mod_eq_of_lt hx.2]
      have a2 : (B * cd B o m' + (y - o)) % B = y - o := by rw [Nat.mul_add_mod, Nat.mod_eq_of_lt hy.2]
      rw [← a1, ← a2, e]
    have e4 : cd B o l' = cd B o m' := by
      have : B * cd B o l' = B * cd B o m' := by omega
      exact Nat.eq_of_mul_eq_mul_left (by omega) this
    rw [ih l' m' (by simpa using hl) (fun z hz => h z (List.mem_append_left _ hz)) (fun z hz => hm z (List.mem_append_left _ hz)) e4, show x = y from by omega]
/-- a word: one to seven letters -/
def wrd (l : List Nat) : Prop := (∀ x ∈ l, isLt x = true) ∧ 1 ≤ l.length ∧ l.length ≤ 7
theorem isLt_i {c : Nat} (h : isLt c = true) : 97 ≤ c ∧ c ≤ 122 := by
  unfold isLt at h
  rw [Bool.and_eq_true, decide_eq_true_iff, decide_eq_true_iff] at h
  exact h
abbrev c27 (l : List Nat) : Int64 := lN (cd 27 96 l)
abbrev c56 (l : List Nat) : Int64 := lN (cd 256 0 l)
theorem cd27_lt {l : List Nat} (h : wrd l) : cd 27 96 l < 2 ^ 36 := by
  have := cd_lt (B := 27) (o := 96) l.length l rfl (fun x hx => by have := isLt_i (h.1 x hx); omega)
  have h2 : 27 ^ l.length ≤ 27 ^ 7 := Nat.pow_le_pow_right (by decide) h.2.2
  have h3 : 27 ^ 7 < 2 ^ 36 := by decide
  omega
theorem cd56_lt {l : List Nat} (h : wrd l) : cd 256 0 l < 2 ^ 57 := by
  have := cd_lt (B := 256) (o := 0) l.length l rfl (fun x hx => by have := isLt_i (h.1 x hx); omega)
  have h2 : 256 ^ l.length ≤ 256 ^ 7 := Nat.pow_le_pow_right (by decide) h.2.2
  have h3 : 256 ^ 7 < 2 ^ 57 := by decide
  omega
theorem c27_i {l m : List Nat} (hl : wrd l) (hm : wrd m) : c27 l = c27 m ↔ l = m := by
  have a := cd27_lt hl
  have b := cd27_lt hm
  rw [pk_lEQ (by omega) (by omega)]
  exact ⟨fun e => cd_inj _ l m rfl (fun x hx => by have := isLt_i (hl.1 x hx); omega) (fun x hx => by have := isLt_i (hm.1 x hx); omega) e, fun e => by rw [e]⟩
theorem c56_i {l m : List Nat} (hl : wrd l) (hm : wrd m) : c56 l = c56 m ↔ l = m := by
  have a := cd56_lt hl
  have b := cd56_lt hm
  rw [pk_lEQ (by omega) (by omega)]
  exact ⟨fun e => cd_inj _ l m rfl (fun x hx => by have := isLt_i (hl.1 x hx); omega) (fun x hx => by have := isLt_i (hm.1 x hx); omega) e, fun e => by rw [e]⟩
/-- the words that are told: device driver in needs or map line get give break -/
def kwd (i : Nat) : List Nat := match i with
  | 0 => [100, 101, 118, 105, 99, 101]
  | 1 => [100, 114, 105, 118, 101, 114]
  | 2 => [105, 110]
  | 3 => [110, 101, 101, 100, 115]
  | 4 => [111, 114]
  | 5 => [109, 97, 112]
  | 6 => [108, 105, 110, 101]
  | 7 => [103, 101, 116]
  | 8 => [103, 105, 118, 101]
  | _ => [98, 114, 101, 97, 107]
/-- which of them a word is -/
def kwi (w : List Nat) : Option Nat := if w = kwd 0 then some 0 else if w = kwd 1 then some 1 else if w = kwd 2 then some 2 else if w = kwd 3 then some 3 else if w = kwd 4 then some 4 else if w = kwd 5 then some 5 else if w = kwd 6 then some 6 else if w = kwd 7 then some 7 else if w = kwd 8 then some 8 else if w = kwd 9 then some 9 else none
theorem kwd_w : ∀ i, i < 10 → wrd (kwd i) := by
  have : ∀ i, i < 10 → (∀ x ∈ kwd i, isLt x = true) ∧ 1 ≤ (kwd i).length ∧ (kwd i).length ≤ 7 := by decide
  exact this
theorem kwi_i {w : List Nat} {i : Nat} (hi : i < 10) : kwi w = some i ↔ w = kwd i := by
  have hk : ∀ i, i < 10 → kwi (kwd i) = some i := by decide
  constructor
  · intro h
    unfold kwi at h
    repeat' split at h
    all_goals first | (cases h; assumption) | cases h
  · intro h
    rw [h]
    exact hk i hi
theorem kwi_lt {w : List Nat} {i : Nat} (h : kwi w = some i) : i < 10 := by
  unfold kwi at h
  repeat' split at h
  all_goals first | (cases h; decide) | cases h
theorem ifc {α : Type} {p q : Prop} [Decidable p] [Decidable q] (h : p ↔ q) {a b e : α} (hb : b = e) : (if p then a else b) = if q then a else e := by
  subst hb
  by_cases hq : q
  · rw [if_pos hq, if_pos (h.mpr hq)]
  · rw [if_neg hq, if_neg (fun z => hq (h.mp z))]
theorem zkey_e {w : List Nat} (h : wrd w) : zkey (c27 w) = (kwi w).map (1000 + ·) := by
  have e : ∀ i, i < 10 → (c27 w = c27 (kwd i) ↔ w = kwd i) := fun i hi => c27_i h (kwd_w i hi)
  have e2 : zkey (c27 w) = if w = kwd 0 then some 1000 else if w = kwd 1 then some 1001 else if w = kwd 2 then some 1002 else if w = kwd 3 then some 1003 else if w = kwd 4 then some 1004 else if w = kwd 5 then some 1005 else if w = kwd 6 then some 1006 else if w = kwd 7 then some 1007 else if w = kwd 8 then some 1008 else if w = kwd 9 then some 1009 else none := by
    unfold zkey
    exact ifc (e 0 (by decide)) (ifc (e 1 (by decide)) (ifc (e 2 (by decide)) (ifc (e 3 (by decide)) (ifc (e 4 (by decide)) (ifc (e 5 (by decide)) (ifc (e 6 (by decide)) (ifc (e 7 (by decide)) (ifc (e 8 (by decide)) (ifc (e 9 (by decide)) rfl)))))))))
  rw [e2]
  unfold kwi
  repeat' split
  all_goals rfl
theorem ztxt_e : ∀ i, i < 10 → ztxt (1020 + i) = c56 (kwd i) := by decide +kernel
/-- up to the first that is not so -/
def scn (p : Nat → Bool) : Nat → Nat → Nat
  | 0, k => k
  | f + 1, k => if p k then scn p f (k + 1) else k
/-- the byte at k; 256: behind the end -/
def qy (n : Nat) (t : Nat → Nat) (k : Nat) : Nat := if k < n then t k else 256
def slc (t : Nat → Nat) (a b : Nat) : List Nat := (List.range (b - a)).map (fun i => t (a + i))
/-- a token: its kind (0 end, 1 word, 2 number, 3 semicolon, 4 signs, 5 none), where it begins, where it ends, its signs -/
abbrev Tk : Type := Nat × Nat × Nat × List Nat
def tok (n : Nat) (t : Nat → Nat) (e : Nat) : Tk :=
  let k := scn (fun i => isBl (qy n t i)) (n - e) e
  if n ≤ k then (0, n, n, []) else if t k = 59 then (3, k, k + 1, []) else
  if t k = 58 then (let a := scn (fun i => isSg (qy n t i)) (n - (k + 1)) (k + 1)
    (if 2 ≤ a - k ∧ a - k ≤ 9 then 4 else 5, k, a, slc t (k + 1) a)) else
  let a := scn (fun i => isAn (qy n t i)) (n - k) k
  (if (slc t k a).all isLt = true ∧ 1 ≤ a - k ∧ a - k ≤ 7 then 1 else if (slc t k a).all isDg = true ∧ 1 ≤ a - k ∧ a - k ≤ 2 then 2 else 5, k, a, slc t k a)
theorem scn_le (p : Nat → Bool) : ∀ (f k : Nat), k ≤ scn p f k ∧ scn p f k ≤ k + f := by
  intro f
  induction f with
  | zero => intro k; exact ⟨Nat.le_refl _, Nat.le_refl _⟩
  | succ f ih =>
    intro k
    unfold scn
    split
    · have := ih (k + 1); omega
    · omega
theorem slc_len (t : Nat → Nat) (a b : Nat) : (slc t a b).length = b - a := by
  unfold slc
  rw [List.length_map, List.length_range]
theorem slc_at (t : Nat → Nat) (a b : Nat) {i : Nat} (h : i < b - a) : (slc t a b)[i]? = some (t (a + i)) := by
  unfold slc
  rw [List.getElem?_map, List.getElem?_range h]
  rfl
theorem slc_s (t : Nat → Nat) {a b : Nat} (h : a ≤ b) : slc t a (b + 1) = slc t a b ++ [t b] := by
  unfold slc
  rw [show b + 1 - a = (b - a) + 1 from by omega, List.range_succ, List.map_append]
  show _ ++ [t (a + (b - a))] = _
  rw [show a + (b - a) = b from by omega]
theorem slc_0 (t : Nat → Nat) (a : Nat) : slc t a a = [] := by
  unfold slc
  rw [Nat.sub_self]
  rfl
