-- THE COMPONENT: the journal cleared
section JCLR
variable {ρ : Nat × (Nat → Int32)} {d : Nat} {c : Nat × Nat} {R : Nat → Nat → Option Nat} {I J : Nat → Nat → Int32} {L : Nat → Nat → Int64}
theorem Jou_clear_e {l : List (Int32 × Int32 × Int32)} (h : JouIs I l) : EV ρ (d + 1) 116 0 [.ref 8] [] (mk c R I L) = some ([], mk c R (z2 (z2 I 8 2 (nI 0)) 8 3 (nI 0)) L) ∧ JouIs (z2 (z2 I 8 2 (nI 0)) 8 3 (nI 0)) [] := by
  refine ⟨?_, ?_, by decide, ?_, 0, by decide, ?_, fun k e he => by cases he⟩
  · rw [bJou_clear_0, zob rfl, bJou_clear_5, zob rfl, bJou_clear_10]
  · rw [z2a, if_neg (by omega), z2a, if_neg (by omega)]
    exact h.1
  · rw [z2_at]
    rfl
  · rw [z2a, if_neg (by omega), z2_at]
end JCLR
