-- THE COMPONENT: rings, the lowest bit
/-- the lowest of the bits below 12 -/
def lwb (S : Int32) : Option Nat := (List.range 12).find? (fun o => bt S o)
theorem lwb_k : ∀ a, a < 64 → ∀ b, b < 64 → (match lwb (nI (64 * a + b)) with
    | none => decide (nI (64 * a + b) &&& -nI (64 * a + b) = 0)
    | some i => decide (nI (64 * a + b) &&& -nI (64 * a + b) = nI (2 ^ i))) = true := by decide +kernel
theorem lwb_e {S : Int32} (h : ∀ j, bt S j = true → j < 12) : S &&& -S = (match lwb S with
    | none => 0
    | some i => nI (2 ^ i)) := by
  have hk : S.toBitVec.toNat < 2 ^ 12 := Nat.lt_pow_two_of_testBit _ (fun i hi => by
    cases e : S.toBitVec.toNat.testBit i with
    | false => rfl
    | true =>
      have := h i e
      omega)
  have e := nI_bv S
  generalize S.toBitVec.toNat = k at hk e
  subst e
  have := lwb_k (k / 64) (by omega) (k % 64) (by omega)
  rw [show 64 * (k / 64) + k % 64 = k from by omega] at this
  cases e : lwb (nI k) with
  | none => rw [e] at this; exact of_decide_eq_true this
  | some i => rw [e] at this; exact of_decide_eq_true this
section CRING1
variable {ρ : Nat × (Nat → Int32)} {d : Nat} {c : Nat × Nat} {R : Nat → Nat → Option Nat} {I J : Nat → Nat → Int32} {L : Nat → Nat → Int64} {P : PT} {p : Nat} {T : TT}
theorem Int_ntz_e : ∀ (i : Nat), i < 12 → EV ρ (d + 1) 230 0 [.int (nI (2 ^ i)), zU] [] (mk c R I L) = some ([.int (nI i)], mk c R I L)
  | 0, _ => by rw [bInt_numberOfTrailingZeros_0, if_neg (by decide)]; rfl
  | 1, _ => by rw [bInt_numberOfTrailingZeros_0, if_pos (by decide), if_pos (by decide), bInt_numberOfTrailingZeros_34, if_pos (by decide), bInt_numberOfTrailingZeros_49, if_pos (by decide), bInt_numberOfTrailingZeros_62, if_pos (by decide), bInt_numberOfTrailingZeros_74]; rfl
  | 2, _ => by rw [bInt_numberOfTrailingZeros_0, if_pos (by decide), if_pos (by decide), bInt_numberOfTrailingZeros_34, if_pos (by decide), bInt_numberOfTrailingZeros_49, if_pos (by decide), bInt_numberOfTrailingZeros_62, if_pos (by decide), bInt_numberOfTrailingZeros_74]; rfl
  | 3, _ => by rw [bInt_numberOfTrailingZeros_0, if_pos (by decide), if_pos (by decide), bInt_numberOfTrailingZeros_34, if_pos (by decide), bInt_numberOfTrailingZeros_49, if_pos (by decide), bInt_numberOfTrailingZeros_62, if_neg (by decide), bInt_numberOfTrailingZeros_74]; rfl
  | 4, _ => by rw [bInt_numberOfTrailingZeros_0, if_pos (by decide), if_pos (by decide), bInt_numberOfTrailingZeros_34, if_pos (by decide), bInt_numberOfTrailingZeros_49, if_pos (by decide), bInt_numberOfTrailingZeros_62, if_neg (by decide), bInt_numberOfTrailingZeros_74]; rfl
  | 5, _ => by rw [bInt_numberOfTrailingZeros_0, if_pos (by decide), if_pos (by decide), bInt_numberOfTrailingZeros_34, if_pos (by decide), bInt_numberOfTrailingZeros_49, if_neg (by decide), bInt_numberOfTrailingZeros_62, if_pos (by decide), bInt_numberOfTrailingZeros_74]; rfl
  | 6, _ => by rw [bInt_numberOfTrailingZeros_0, if_pos (by decide), if_pos (by decide), bInt_numberOfTrailingZeros_34, if_pos (by decide), bInt_numberOfTrailingZeros_49, if_neg (by decide), bInt_numberOfTrailingZeros_62, if_pos (by decide), bInt_numberOfTrailingZeros_74]; rfl
  | 7, _ => by rw [bInt_numberOfTrailingZeros_0, if_pos (by decide), if_pos (by decide), bInt_numberOfTrailingZeros_34, if_pos (by decide), bInt_numberOfTrailingZeros_49, if_neg (by decide), bInt_numberOfTrailingZeros_62, if_neg (by decide), bInt_numberOfTrailingZeros_74]; rfl
  | 8, _ => by rw [bInt_numberOfTrailingZeros_0, if_pos (by decide), if_pos (by decide), bInt_numberOfTrailingZeros_34, if_pos (by decide), bInt_numberOfTrailingZeros_49, if_neg (by decide), bInt_numberOfTrailingZeros_62, if_neg (by decide), bInt_numberOfTrailingZeros_74]; rfl
  | 9, _ => by rw [bInt_numberOfTrailingZeros_0, if_pos (by decide), if_pos (by decide), bInt_numberOfTrailingZeros_34, if_neg (by decide), bInt_numberOfTrailingZeros_49, if_pos (by decide), bInt_numberOfTrailingZeros_62, if_pos (by decide), bInt_numberOfTrailingZeros_74]; rfl
  | 10, _ => by rw [bInt_numberOfTrailingZeros_0, if_pos (by decide), if_pos (by decide), bInt_numberOfTrailingZeros_34, if_neg (by decide), bInt_numberOfTrailingZeros_49, if_pos (by decide), bInt_numberOfTrailingZeros_62, if_pos (by decide), bInt_numberOfTrailingZeros_74]; rfl
  | 11, _ => by rw [bInt_numberOfTrailingZeros_0, if_pos (by decide), if_pos (by decide), bInt_numberOfTrailingZeros_34, if_neg (by decide), bInt_numberOfTrailingZeros_49, if_pos (by decide), bInt_numberOfTrailingZeros_62, if_neg (by decide), bInt_numberOfTrailingZeros_74]; rfl
  | _ + 12, h => by omega
theorem Int_low_e {S : Int32} (h : ∀ j, bt S j = true → j < 12) : EV ρ (d + 1) 229 0 [.int S] [] (mk c R I L) = some ([.int (match lwb S with
    | none => 0
    | some i => nI (2 ^ i))], mk c R I L) := by
  rw [bInt_lowestOneBit_0, lwb_e h]
end CRING1
