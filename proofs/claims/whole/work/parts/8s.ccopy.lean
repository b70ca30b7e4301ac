-- THE COMPONENT: a trial bench is a copy
theorem isB_dj {a b : Nat} (ha : isB a) (hb : isB b) (h : a ≠ b) : a + 18 ≤ b ∨ b + 18 ≤ a := by
  unfold isB at ha hb
  omega
/-- the first m rows are those of a -/
def CPY (a b : Nat) (I K : Nat → Nat → Int32) (m : Nat) : Prop := (∀ q, ¬ (b + 1 ≤ q ∧ q ≤ b + m) → K q = I q) ∧ ∀ k, 1 ≤ k → k ≤ m → ∀ j, j < (if k = 8 then 16 else if k = 9 then 8 else 12) → K (b + k) j = I (a + k) j
theorem CPY.up {a b : Nat} {I K : Nat → Nat → Int32} {m n : Nat} (h : CPY a b I K m) (hab : a + 18 ≤ b ∨ b + 18 ≤ a) (hm : m ≤ 16) (hn : n = if m + 1 = 8 then 16 else if m + 1 = 9 then 8 else 12) : CPY a b I (zcpy K (a + (m + 1)) 0 (b + (m + 1)) 0 n) (m + 1) := by
  refine ⟨fun q hq => ?_, fun k h1 h2 j hj => ?_⟩
  · unfold zcpy
    rw [va_up_ne _ _ (by omega)]
    exact h.1 q (by omega)
  · unfold zcpy
    by_cases e : k = m + 1
    · subst e
      rw [← hn] at hj
      rw [va_up_self, pk_cpy_in (by omega) (by omega), h.1 (a + (m + 1)) (by omega)]
      simp
    · rw [va_up_ne _ _ (by omega)]
      exact h.2 k h1 (by omega) j hj
section CCOPY
variable {ρ : Nat × (Nat → Int32)} {d : Nat} {c : Nat × Nat} {R : Nat → Nat → Option Nat} {I J : Nat → Nat → Int32} {L : Nat → Nat → Int64} {P : PT} {a b p : Nat} {T : TT}
theorem z2R {f : Nat → Nat → Option Nat} {q k i j : Nat} {v : Option Nat} (h : q ≠ i) : z2 f i j v q k = f q k := by rw [z2a, if_neg (fun z => h z.1)]
theorem PC_R (h : PC P p R I) (hb : isB b) (o : Option Nat) : PC P p (z2 R b 0 o) I := by
  obtain ⟨h0, a1, a2, a3, a4, a5⟩ := h
  have hge := xb_ge hb
  refine ⟨h0, a1, a2, a3, a4, fun v hv => ?_⟩
  obtain ⟨b1, b2, b3⟩ := a5 v hv
  refine ⟨b1, fun k z hz => ?_, b3⟩
  rw [z2R (by unfold isP at h0; omega)]
  exact b2 k z hz
/-- another bench is written -/
theorem CI_other (h : CI P a p T R I) (hb : isB b) (hne : a ≠ b) (hF : ∀ q, ¬ (b ≤ q ∧ q ≤ b + 17) → J q = I q) (o : Option Nat) : CI P a p T (z2 R b 0 o) J := by
  obtain ⟨⟨ha, hV, hR, hC, hT⟩, hI, hH⟩ := h
  have hge := xb_ge hb
  have hga := xb_ge ha
  have hab := isB_dj ha hb hne
  have hp := hC.1
  have h104 := xb_104 hb
  have h18 := xb_18 hb
  refine ⟨⟨ha, hV, by rw [z2R hne]; exact hR, PC_R (PC_to hC hV (fun q h1 h2 => hF q (by unfold isP at hp; omega))) hb o, CR_to hT (fun k hk => hF _ (by simp only [List.mem_cons, List.not_mem_nil, or_false] at hk; omega)) (by rw [hF a (by omega)]) (by rw [hF a (by omega)]) (by rw [hF a (by omega)]) (fun _ => ⟨hF _ (by omega), hF _ (by omega)⟩) (by rw [hF 104 (by omega)])⟩, hI, fun x hx h3 => ?_⟩
  rw [hF _ (by omega)]
  exact hH x hx h3
set_option maxHeartbeats 1000000 in
theorem Ben_copyFrom_e (h : CI P a p T R I) (hb : isB b) (hne : a ≠ b) (h86 : b ≠ 86) : ∃ J, EV ρ (d + 2) 158 0 [.ref b, .ref a] [] (mk c R I L) = some ([], mk c (z2 R b 0 (some p)) J L) ∧ CI P b p T (z2 R b 0 (some p)) J ∧ (∀ q, ¬ (b ≤ q ∧ q ≤ b + 17) → J q = I q) := by
  have h' := h
  obtain ⟨⟨ha, hV, hR, hC, hT⟩, hI, hH⟩ := h
  have h12 := hV.1
  have hge := xb_ge hb
  have hab := isB_dj ha hb hne
  have hab' : a + 18 ≤ b ∨ b + 18 ≤ a := hab
  have h104 := xb_104 hb
  have c0 : CPY a b I I 0 := ⟨fun _ _ => rfl, fun k h1 h2 => by omega⟩
  have c1 := c0.up (n := 12) (m := 0) hab (by decide) (by decide)
  have c2 := c1.up (n := 12) (m := 1) hab (by decide) (by decide)
  have c3 := c2.up (n := 12) (m := 2) hab (by decide) (by decide)
  have c4 := c3.up (n := 12) (m := 3) hab (by decide) (by decide)
  have c5 := c4.up (n := 12) (m := 4) hab (by decide) (by decide)
  have c6 := c5.up (n := 12) (m := 5) hab (by decide) (by decide)
  have c7 := c6.up (n := 12) (m := 6) hab (by decide) (by decide)
  have c8 := c7.up (n := 16) (m := 7) hab (by decide) (by decide)
  have c9 := c8.up (n := 8) (m := 8) hab (by decide) (by decide)
  rw [bBen_copyFrom_0, zob (xb_o ha), zob (xb_o hb), hR]
  show ∃ J, EV ρ (d + 2) 158 8 [.ref b, .ref a] [] (mk c (z2 R b 0 (some p)) I L) = _ ∧ _
  rw [bBen_copyFrom_8, zob (xb_o ha), zob (xb_o hb), xb_F2 hb, zrs, xb_F2 ha, zrs, zob (xb_c1 ha), zob (xb_c1 hb), if_pos (by rw [xb_n1 ha, xb_n1 hb]; decide), bBen_copyFrom_23, zob (xb_o ha), zob (xb_o hb), xb_F3 hb, zrs, xb_F3 ha, zrs, zob (xb_c2 ha), zob (xb_c2 hb), if_pos (by rw [xb_n2 ha, xb_n2 hb]; decide), bBen_copyFrom_38, zob (xb_o ha), zob (xb_o hb), xb_F4 hb, zrs, xb_F4 ha, zrs, zob (xb_c3 ha), zob (xb_c3 hb), if_pos (by rw [xb_n3 ha, xb_n3 hb]; decide), bBen_copyFrom_53, zob (xb_o ha), zob (xb_o hb), xb_F5 hb, zrs, xb_F5 ha, zrs, zob (xb_c4 ha), zob (xb_c4 hb), if_pos (by rw [xb_n4 ha, xb_n4 hb]; decide), bBen_copyFrom_68, zob (xb_o ha), zob (xb_o hb), xb_F6 hb, zrs, xb_F6 ha, zrs, zob (xb_c5 ha), zob (xb_c5 hb), if_pos (by rw [xb_n5 ha, xb_n5 hb]; decide), bBen_copyFrom_83, zob (xb_o ha), zob (xb_o hb), xb_F7 hb, zrs, xb_F7 ha, zrs, zob (xb_c6 ha), zob (xb_c6 hb), if_pos (by rw [xb_n6 ha, xb_n6 hb]; decide), bBen_copyFrom_98, zob (xb_o ha), zob (xb_o hb), xb_F8 hb, zrs, xb_F8 ha, zrs, zob (xb_c7 ha), zob (xb_c7 hb), if_pos (by rw [xb_n7 ha, xb_n7 hb]; decide), bBen_copyFrom_113, zob (xb_o ha), zob (xb_o hb), xb_F9 hb, zrs, xb_F9 ha, zrs, zob (xb_c8 ha), zob (xb_c8 hb), if_pos (by rw [xb_n8 ha, xb_n8 hb]; decide), bBen_copyFrom_128, zob (xb_o ha), zob (xb_o hb), xb_F10 hb, zrs, xb_F10 ha, zrs, zob (xb_c9 ha), zob (xb_c9 hb), if_pos (by rw [xb_n9 ha, xb_n9 hb]; decide)]
  generalize zcpy _ (a + 9) 0 (b + 9) 0 8 = K at c9 ⊢
  have kb : ∀ k, 10 ≤ k → K (b + k) = I (b + k) := fun k hk => c9.1 _ (by omega)
  have ka : ∀ k, k ≤ 17 → K (a + k) = I (a + k) := fun k hk => c9.1 _ (by omega)
  obtain ⟨M, m1, m2, m3⟩ := Row_copyFrom_e (ρ := ρ) (d := d) (c := c) (R := z2 R b 0 (some p)) (L := L) (xb_r10 hb) (xb_r10 ha) (by omega) (by omega) (by omega) (RowIs_to hT.2.2.2.1 (ka 10 (by omega)) (ka 11 (by omega)))
  have mf : ∀ q, q ≠ b + 10 → q ≠ b + 11 → M q = K q := fun q e1 e2 => m3 q (by simp only [List.mem_cons, List.not_mem_nil, or_false]; omega)
  obtain ⟨N, n1, n2, n3⟩ := Row_copyFrom_e (ρ := ρ) (d := d) (c := c) (R := z2 R b 0 (some p)) (L := L) (xb_r14 hb) (xb_r14 ha) (by omega) (by omega) (by omega) (RowIs_to hT.2.2.2.2.1 ((mf _ (by omega) (by omega)).trans (ka 14 (by omega))) ((mf _ (by omega) (by omega)).trans (ka 15 (by omega))))
  have nf : ∀ q, q ≠ b + 14 → q ≠ b + 15 → N q = M q := fun q e1 e2 => n3 q (by simp only [List.mem_cons, List.not_mem_nil, or_false]; omega)
  have nk : ∀ q, q ≠ b + 10 → q ≠ b + 11 → q ≠ b + 14 → q ≠ b + 15 → N q = K q := fun q e1 e2 e3 e4 => (nf q e3 e4).trans (mf q e1 e2)
  have nv : ∀ k, 1 ≤ k → k ≤ 9 → ∀ j, j < (if k = 8 then 16 else if k = 9 then 8 else 12) → N (b + k) j = I (a + k) j := fun k h1 h2 j hj => by
    rw [nk _ (by omega) (by omega) (by omega) (by omega)]
    exact c9.2 k h1 h2 j hj
  have na : ∀ k, k ≤ 17 → N (a + k) = I (a + k) := fun k hk => (nk _ (by omega) (by omega) (by omega) (by omega)).trans (ka k hk)
  have na0 : N a = I a := na 0 (by omega)
  rw [bBen_copyFrom_143, zob (xb_o hb), zob (xb_o ha), xb_F11 ha, zrs, xb_F11 hb, zrs, zob (xb_r10 hb).1, m1, zcv, bBen_copyFrom_154, zob (xb_o hb), zob (xb_o ha), xb_F13 ha, zrs, xb_F13 hb, zrs, zob (xb_r14 hb).1, n1, zcv, bBen_copyFrom_165, zob (xb_o ha), zob (xb_o hb), bBen_copyFrom_173, zob (xb_o ha), zob (xb_o hb), bBen_copyFrom_181, zob (xb_o ha), zob (xb_o hb), bBen_copyFrom_189]
  have e15 : N a 15 = T.2.2.1.1 := by rw [na0]; exact hT.2.2.1.2.2.1
  have e16 : z2 N b 15 (N a 15) a 16 = T.2.2.1.2 := by rw [z2_ne (by omega), na0]; exact hT.2.2.1.2.2.2
  rw [e16, e15]
  generalize hw : z2 (z2 N b 15 T.2.2.1.1) b 16 T.2.2.1.2 a 17 = w
  have hJ : ∀ q, q ≠ b → z2 (z2 (z2 N b 15 T.2.2.1.1) b 16 T.2.2.1.2) b 17 w q = N q := fun q hq => by rw [z2_ne hq, z2_ne hq, z2_ne hq]
  have hF : ∀ q, ¬ (b ≤ q ∧ q ≤ b + 17) → z2 (z2 (z2 N b 15 T.2.2.1.1) b 16 T.2.2.1.2) b 17 w q = I q := fun q hq => by
    rw [hJ q (by omega), nk q (by omega) (by omega) (by omega) (by omega)]
    exact c9.1 q (by omega)
  have hp := hC.1
  refine ⟨_, rfl, ⟨⟨hb, hV, by rw [z2a, if_pos ⟨rfl, rfl⟩], PC_R (PC_to hC hV (fun q h1 h2 => hF q (by unfold isP at hp; omega))) hb _, ?_⟩, hI, fun x hx h3 => ?_⟩, hF⟩
  · refine ⟨fun y hy => ?_, fun y hy => ?_, ⟨fun j hj => ?_, fun j hj => ?_, ?_, ?_⟩, RowIs_to (RowIs_to m2 (nf _ (by omega) (by omega)) (nf _ (by omega) (by omega))) (hJ _ (by omega)) (hJ _ (by omega)), RowIs_to n2 (hJ _ (by omega)) (hJ _ (by omega)), fun e => absurd e h86, ?_⟩
    · rw [hJ _ (by omega), hJ _ (by omega), nv 1 (by decide) (by decide) y hy, nv 2 (by decide) (by decide) y hy]
      exact hT.1 y hy
    · rw [hJ _ (by omega), hJ _ (by omega), hJ _ (by omega), hJ _ (by omega), nv 3 (by decide) (by decide) y hy, nv 4 (by decide) (by decide) y hy, nv 7 (by decide) (by decide) y hy, nv 6 (by decide) (by decide) y hy]
      exact hT.2.1 y hy
    · rw [hJ _ (by omega), nv 8 (by decide) (by decide) j hj]
      exact hT.2.2.1.1 j hj
    · rw [hJ _ (by omega), nv 9 (by decide) (by decide) j hj]
      exact hT.2.2.1.2.1 j hj
    · rw [z2a, if_neg (by omega), z2a, if_neg (by omega), z2a, if_pos ⟨rfl, rfl⟩]
    · rw [z2a, if_neg (by omega), z2a, if_pos ⟨rfl, rfl⟩]
    · have := h104 0 (by omega)
      have := h104 17 (by omega)
      rw [hF 104 (by unfold isB at hb; omega)]
      exact hT.2.2.2.2.2.2
  · rw [hJ _ (by omega), nv 5 (by decide) (by decide) x (by show x < 12; omega)]
    exact hH x hx h3
end CCOPY
