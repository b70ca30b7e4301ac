-- THE COMPONENT: wanted, one set of drivers
theorem tLoad_ld {P : PT} {T : TT} {v : Nat} (hV : PV P) (hT : IV P T) : (tLoad P T v).2.2.1.2 = T.2.2.1.2 ||| (nI 1 <<< (nI v &&& 31)) := by
  unfold tLoad tLoad0
  have h0 : IV P (u_ld T (T.2.2.1.2 ||| (nI 1 <<< (nI v &&& 31)))) := IV_ld hT
  obtain ⟨f1, f2⟩ := tTries_v (p := fun x => (P.2.2.2.2.1 v x).isSome) hV (List.range P.1.1) _ rg_lt h0
  obtain ⟨-, g2⟩ := tSettle_f hV 13 T.2.2.2.2 _ f1.1
  rw [(SF_sync P _).2.2.2.2.2.2.2.2.2.2.2.1, g2.1, f2.1]
theorem CR_SF {b : Nat} {T U : TT} {I : Nat → Nat → Int32} (h : CR b T I) (h86 : b ≠ 86) (hs : SF T U) : CR b U I := by
  obtain ⟨s1, s2, s3, s4, s5, s6, s7, s8, s9, s10, s11, s12, s13, s14⟩ := hs
  obtain ⟨g1, g2, g3, g4, g5, g6, g7⟩ := h
  unfold CR
  rw [s1, s2, s3, s4, s5, s6, s7, s8, s9, s10, s11, s12]
  exact ⟨g1, g2, g3, g4, g5, fun e => absurd e h86, g7⟩
theorem cb_8 {s : Nat} (hs : s < 256) : cb (nI s) 12 = pcn s := by
  unfold pcn
  have h : ∀ j, 8 ≤ j → j < 32 → bt (nI s) j = false := fun j h1 h2 => by
    rw [bt_n h2]
    cases e : s.testBit j with
    | false => rfl
    | true =>
      have := tb_hi (n := 8) hs e
      omega
  show cb (nI s) 8 + _ + _ + _ + _ = _
  rw [h 8 (by decide) (by decide), h 9 (by decide) (by decide), h 10 (by decide) (by decide), h 11 (by decide) (by decide)]
  rfl
theorem bt_8 {s j : Nat} (hs : s < 256) (h : bt (nI s) j = true) : j < 12 := Classical.byContradiction fun z => by
  by_cases hj : j < 32
  · rw [bt_n hj] at h
    have := tb_hi (n := 8) hs h
    omega
  · unfold bt at h
    rw [BitVec.getLsbD_of_ge _ _ (by omega)] at h
    cases h
/-- what is noted: the best of those seen -/
def oZ (o : Option Nat) : Int32 := match o with
  | none => nI 0
  | some b => nI b
def WB (P : PT) (T : TT) (Q : Nat → Prop) (I : Nat → Nat → Int32) : Prop := ∀ x, x < P.1.1 → ∃ o, I 256 x = oZ o ∧ (∀ b, o = some b → Q b ∧ cdS P T x b) ∧ ∀ s, Q s → cdS P T x s → ∃ b, o = some b ∧ bet b s
section CWAN1
variable {ρ : Nat × (Nat → Int32)} {d : Nat} {c : Nat × Nat} {R : Nat → Nat → Option Nat} {I J : Nat → Nat → Int32} {L : Nat → Nat → Int64} {P : PT} {b p : Nat} {T W : TT}
theorem B_isBetter_e {m : Nat} {o : Option Nat} (hm : m < 256) (hm0 : m ≠ 0) (ho : ∀ b, o = some b → b < 256 ∧ b ≠ 0) : ∃ r, EV ρ (d + 2) 222 0 [.int (nI m), .int (oZ o), zU] [] (mk c R I L) = some ([.int (bo r)], mk c R I L) ∧ (r = true ↔ ∀ b, o = some b → ¬ bet b m) := by
  have h0 : ∀ j, bt (oZ o) j = true → j < 12 := fun j hj => by
    cases o with
    | none =>
      rw [show bt (oZ none) j = bt (nI 0) j from rfl, show bt (nI 0) j = false from b_0 j] at hj
      cases hj
    | some b => exact bt_8 (ho b rfl).1 hj
  rw [bB_isBetter_0, Int_bitCount_e h0, zci, bB_isBetter_4, Int_bitCount_e (fun j hj => bt_8 hm hj), zci, bB_isBetter_8, cb_8 hm]
  cases o with
  | none =>
    rw [show oZ none = nI 0 from rfl, if_pos (show nI 0 = 0 from rfl)]
    exact ⟨true, rfl, fun _ b hb => (by cases hb), fun _ => rfl⟩
  | some b =>
    obtain ⟨hb, hb0⟩ := ho b rfl
    have l1 := pcn_le b
    have l2 := pcn_le m
    have ht : (nI (pcn b) - nI (pcn m)).toInt = (pcn b : Int) - pcn m := pk_sub_toInt (by omega) (by omega)
    have e1 : (0 < nI (pcn b) - nI (pcn m)) ↔ pcn m < pcn b := by
      rw [Int32.lt_iff_toInt_lt, ht]
      show (0 : Int) < _ ↔ _
      omega
    have e2 : (nI (pcn b) - nI (pcn m) = 0) ↔ pcn m = pcn b := by
      rw [← Int32.toInt_inj, ht]
      show _ = (0 : Int) ↔ _
      omega
    rw [show oZ (some b) = nI b from rfl, cb_8 hb, if_neg (by rw [nn1 (by omega)]; exact hb0)]
    by_cases c1 : pcn m < pcn b
    · rw [if_pos (e1.mpr c1)]
      exact ⟨true, rfl, fun _ b' hb' => by cases hb'; unfold bet; omega, fun _ => rfl⟩
    · rw [if_neg (fun z => c1 (e1.mp z))]
      by_cases c2 : pcn m = pcn b
      · rw [if_pos (e2.mpr c2)]
        by_cases c3 : b ≤ m
        · rw [if_pos (nI_le c3 (by omega))]
          exact ⟨false, rfl, fun z => (by cases z), fun z => absurd (show bet b m from Or.inr ⟨c2.symm, c3⟩) (z b rfl)⟩
        · rw [if_neg (nI_ge (by omega) (by omega))]
          exact ⟨true, rfl, fun _ b' hb' => by cases hb'; unfold bet; omega, fun _ => rfl⟩
      · rw [if_neg (fun z => c2 (e2.mp z))]
        exact ⟨false, rfl, fun z => (by cases z), fun z => absurd (show bet b m from by unfold bet; omega) (z b rfl)⟩
theorem WB_one {Q : Nat → Prop} {m x : Nat} {o : Option Nat} (h1 : ∀ b, o = some b → Q b ∧ cdS P T x b) (h2 : ∀ s, Q s → cdS P T x s → ∃ b, o = some b ∧ bet b s) : (¬ cdS P T x m ∨ ∃ b, o = some b ∧ bet b m) → (∀ b, o = some b → (Q b ∨ b = m) ∧ cdS P T x b) ∧ ∀ s, Q s ∨ s = m → cdS P T x s → ∃ b, o = some b ∧ bet b s := fun hn => ⟨fun b hb => ⟨Or.inl (h1 b hb).1, (h1 b hb).2⟩, fun s hs hc => by
  rcases hs with hs | rfl
  · exact h2 s hs hc
  · rcases hn with hn | hn
    · exact absurd hc hn
    · exact hn⟩
theorem B_remember_l (hR8 : R 0 8 = some p) {Q : Nat → Prop} {m : Nat} (hm : m < 256) (hm0 : m ≠ 0) (hQ : ∀ s, Q s → s < 256 ∧ s ≠ 0) (hcd : ∀ x, cdS P T x m ↔ W.1.1.1.1 x = 3) : ∀ (n k : Nat) (I : Nat → Nat → Int32), k + n = P.1.1 → CX P b p W R I → TV P W → b ≠ 86 → (∀ x, x < P.1.1 → ∃ o, I 256 x = oZ o ∧ (∀ b, o = some b → (Q b ∨ (x < k ∧ b = m)) ∧ cdS P T x b) ∧ ∀ s, (Q s ∨ (x < k ∧ s = m)) → cdS P T x s → ∃ b, o = some b ∧ bet b s) → ∃ J, EV ρ (d + 3) 221 2 [.ref 0, .ref b, .int (nI m), .int (nI k)] [] (mk c R I L) = some ([], mk c R J L) ∧ (∀ q, q ≠ 256 → J q = I q) ∧ WB P T (fun s => Q s ∨ s = m) J := by
  intro n
  induction n with
  | zero =>
    intro k I hk h hv h86 hW
    have h12 := h.2.1.1
    have hC := h.2.2.2.1
    rw [bB_rememberWanted_2, hR8, zrs, zob (xp_o hC.1), hC.2.1, if_pos (nI_le (by omega) (by omega))]
    refine ⟨I, rfl, fun _ _ => rfl, fun x hx => ?_⟩
    obtain ⟨o, o1, o2, o3⟩ := hW x hx
    exact ⟨o, o1, fun b hb => ⟨(o2 b hb).1.elim Or.inl (fun z => Or.inr z.2), (o2 b hb).2⟩, fun s hs hc => o3 s (hs.elim Or.inl (fun z => Or.inr ⟨by omega, z⟩)) hc⟩
  | succ n ih =>
    intro k I hk h hv h86 hW
    have h' := h
    obtain ⟨hb, hV, hR, hC, hT⟩ := h
    have h12 := hV.1
    have hp := hC.1
    have hkd : k < P.1.1 := by omega
    have hst := hv.1 k
    obtain ⟨o, o1, o2, o3⟩ := hW k hkd
    have o2' : ∀ b, o = some b → Q b ∧ cdS P T k b := fun b hb => ⟨(o2 b hb).1.elim id (fun z => by omega), (o2 b hb).2⟩
    have o3' : ∀ s, Q s → cdS P T k s → ∃ b, o = some b ∧ bet b s := fun s hs hc => o3 s (Or.inl hs) hc
    have nxt : ∀ (K : Nat → Nat → Int32) (o' : Option Nat), (∀ q, q ≠ 256 → K q = I q) → (∀ x, x ≠ k → K 256 x = I 256 x) → K 256 k = oZ o' → (∀ b, o' = some b → (Q b ∨ b = m) ∧ cdS P T k b) → (∀ s, Q s ∨ s = m → cdS P T k s → ∃ b, o' = some b ∧ bet b s) → ∃ J, EV ρ (d + 3) 221 43 [.ref 0, .ref b, .int (nI m), .int (nI k)] [] (mk c R K L) = some ([], mk c R J L) ∧ (∀ q, q ≠ 256 → J q = I q) ∧ WB P T (fun s => Q s ∨ s = m) J := fun K o' hK1 hK2 hK3 hK4 hK5 => by
      rw [bB_rememberWanted_43, nI_add]
      have hFB : FB b I K ∨ True := Or.inr trivial
      have hge := xb_ge hb
      have hX : CX P b p W R K := ⟨hb, hV, hR, PC_to hC hV (fun q h1 h2 => hK1 q (by unfold isP at hp; omega)), CR_to hT (fun j _ => hK1 _ (by simp only [List.mem_cons, List.not_mem_nil, or_false] at *; omega)) (by rw [hK1 b (by omega)]) (by rw [hK1 b (by omega)]) (by rw [hK1 b (by omega)]) (fun _ => ⟨hK1 _ (by omega), hK1 _ (by omega)⟩) (by rw [hK1 104 (by omega)])⟩
      obtain ⟨J, j1, j2, j3⟩ := ih (k + 1) K (by omega) hX hv h86 (fun x hx => by
        by_cases e : x = k
        · subst e
          exact ⟨o', hK3, fun b hb => ⟨(hK4 b hb).1.elim Or.inl (fun z => Or.inr ⟨by omega, z⟩), (hK4 b hb).2⟩, fun s hs hc => hK5 s (hs.elim Or.inl (fun z => Or.inr z.2)) hc⟩
        · obtain ⟨q, q1, q2, q3⟩ := hW x hx
          exact ⟨q, by rw [hK2 x e]; exact q1, fun b hb => ⟨(q2 b hb).1.elim Or.inl (fun z => Or.inr ⟨by omega, z.2⟩), (q2 b hb).2⟩, fun s hs hc => q3 s (hs.elim Or.inl (fun z => Or.inr ⟨by omega, z.2⟩)) hc⟩)
      exact ⟨J, j1, fun q hq => (j2 q hq).trans (hK1 q hq), j3⟩
    rw [bB_rememberWanted_2, hR8, zrs, zob (xp_o hp), hC.2.1, if_neg (nI_ge hkd (by omega)), zob (xb_o hb), xb_F2 hb, zrs, zar (xb_a1 hb), zidx_n (by omega) (by decide), (hT.1 k (by omega)).1]
    by_cases e3 : W.1.1.1.1 k = 3
    · have hc := (hcd k).mpr e3
      obtain ⟨r, r1, r2⟩ := B_isBetter_e (ρ := ρ) (d := d) (c := c) (R := R) (I := I) (L := L) hm hm0 (fun b hb => hQ b (o2' b hb).1)
      rw [if_pos (by rw [e3]), zidx_n (by omega) (by decide), o1, r1, zci, bB_rememberWanted_33]
      cases r with
      | true =>
        have hbt := r2.mp rfl
        rw [if_neg (by decide), zidx_n (by omega) (by decide)]
        refine nxt _ (some m) (fun q hq => z2_ne hq) (fun x hx => by rw [z2a, if_neg (fun z => hx z.2)]) (z2_at _ _ _ _) (fun b hb => by cases hb; exact ⟨Or.inr rfl, hc⟩) (fun s hs hcs => ⟨m, rfl, ?_⟩)
        rcases hs with hs | rfl
        · obtain ⟨b', hb', hbt'⟩ := o3' s hs hcs
          have := hbt b' hb'
          unfold bet at this hbt' ⊢
          omega
        · exact Or.inr ⟨rfl, Nat.le_refl _⟩
      | false =>
        have hex : ∃ b, o = some b ∧ bet b m := Classical.byContradiction fun z => by
          have := r2.mpr (fun b hb hbt => z ⟨b, hb, hbt⟩)
          cases this
        obtain ⟨w1, w2⟩ := WB_one (m := m) o2' o3' (Or.inr hex)
        rw [if_pos (by decide)]
        exact nxt I o (fun _ _ => rfl) (fun _ _ => rfl) o1 w1 w2
    · obtain ⟨w1, w2⟩ := WB_one (m := m) o2' o3' (Or.inl (fun z => e3 ((hcd k).mp z)))
      rw [if_neg (by rw [nI_eq (by omega) (by decide)]; exact e3)]
      exact nxt I o (fun _ _ => rfl) (fun _ _ => rfl) o1 w1 w2
end CWAN1
