-- THE COMPONENT'S BENCH: a probe, whole
theorem hgF_to {P : PT} {T U : TT} (hV : PV P) (hT : IV P T) (hc : ∀ y, T.1.1.1.1 y = 3 → U.2.1.1.1 y = T.2.1.1.1 y) : ∀ (n m o : Nat) (A B : List Nat), T.1.2.2.1 = A ++ o :: B → A.length < n → A.length < m → hgF P U n o = hgF P T m o
  | 0, _, _, _, _, _, h, _ => by omega
  | _ + 1, 0, _, _, _, _, _, h => by omega
  | n + 1, m + 1, o, A, B, hb, h1, h2 => by
    have ho : T.1.1.1.1 o = 3 := ((hT.1.1.2.2.1.2 o).mp (by rw [hb]; simp)).2
    have e1 : ∀ o', hg P U o' o = hg P T o' o := fun o' => by unfold hg; rw [hc o ho]
    have e2 : (fun (k : Nat) (o' : Nat) => if hg P U o' o then max k (hgF P U n o' + 1) else k) = (fun (k : Nat) (o' : Nat) => if hg P T o' o then max k (hgF P T m o' + 1) else k) := by
      funext k o'
      rw [e1 o']
      by_cases e : hg P T o' o = true
      · rw [if_pos e, if_pos e]
        obtain ⟨A1, A2, rfl⟩ := low_b hV hT hb e
        rw [hgF_to hV hT hc n m o' A1 (A2 ++ o :: B) (by rw [hb]; simp) (by simp at h1; omega) (by simp at h2; omega)]
      · rw [if_neg e, if_neg e]
    unfold hgF
    rw [e2]
/-- the heights that the bench keeps -/
def CH (P : PT) (b : Nat) (T : TT) (I : Nat → Nat → Int32) : Prop := ∀ x, x < P.1.1 → T.1.1.1.1 x = 3 → I (b + 5) x = nI (hgF P T 13 x)
theorem CH_to {P : PT} {b : Nat} {T U : TT} {I J : Nat → Nat → Int32} (h : CH P b T I) (hV : PV P) (hT : IV P T) (hs : ∀ y, U.1.1.1.1 y = 3 → T.1.1.1.1 y = 3) (hc : ∀ y, T.1.1.1.1 y = 3 → U.2.1.1.1 y = T.2.1.1.1 y) (hJ : J (b + 5) = I (b + 5)) : CH P b U J := fun x hx h3 => by
  rw [hJ, h x hx (hs x h3)]
  obtain ⟨A, B, e⟩ := List.append_of_mem ((hT.1.1.2.2.1.2 x).mpr ⟨hx, hs x h3⟩)
  have hl := bnd_12 hV hT.1.1
  rw [e] at hl
  simp at hl
  rw [hgF_to (U := U) hV hT hc 13 13 x A B e (by omega) (by omega)]
section CEND1
variable {ρ : Nat × (Nat → Int32)} {d : Nat} {c : Nat × Nat} {R : Nat → Nat → Option Nat} {I J : Nat → Nat → Int32} {L : Nat → Nat → Int64} {P : PT} {b p : Nat} {T : TT}
theorem Ben_wrong0 (h : CX P b p T R I) (hv : TV P T) {x v : Nat} (hx : x < P.1.1) (hvn : v < P.1.2.1) (hca : T.1.1.2.2 x = -1) (ht : T.2.2.2.1 x = []) : ∃ J m, EV ρ (d + 4) 163 7 [.ref b, .int (nI x), .int (nI v), zU, zU, zU, zU, zU] [] (mk c R I L) = EV ρ (d + 4) 163 208 [.ref b, .int (nI x), .int (nI v), zU, .int (nI (tWrong P T x v).1.1), .int (nI m), zU, zU] [] (mk c R J L) ∧ CX P b p (u_re (tcu (tWrong P T x v) x) (va_up (tcu (tWrong P T x v) x).1.1.2.1 x (nI (tWrong P T x v).1.1))) R J ∧ m ≤ (P.2.2.2.1 v).length ∧ (tWrong P T x v).2.2.2.2.1 x = ((P.2.2.2.1 v).take m).filter isT ∧ FZ [5, 12, 13, 14, 15, 16, 17] b I J ∧ J b 17 = I b 17 ∧ J b 18 = I b 18 := by
  have h' := h
  obtain ⟨hb, hV, hR, hC, hT⟩ := h
  have h12 := hV.1
  have h8 := hV.2.1
  have hp := hC.1
  have h6 := (hV.2.2.2.2.2.1 v hvn).1
  -- the parent stands, or there is none
  have go : pNo P T x = none → ∃ J m, EV ρ (d + 4) 163 45 [.ref b, .int (nI x), .int (nI v), zU, .int (nI 0), zU, zU, zU] [] (mk c R I L) = EV ρ (d + 4) 163 208 [.ref b, .int (nI x), .int (nI v), zU, .int (nI (tWrong P T x v).1.1), .int (nI m), zU, zU] [] (mk c R J L) ∧ CX P b p (u_re (tcu (tWrong P T x v) x) (va_up (tcu (tWrong P T x v) x).1.1.2.1 x (nI (tWrong P T x v).1.1))) R J ∧ m ≤ (P.2.2.2.1 v).length ∧ (tWrong P T x v).2.2.2.2.1 x = ((P.2.2.2.1 v).take m).filter isT ∧ FZ [5, 12, 13, 14, 15, 16, 17] b I J ∧ J b 17 = I b 17 ∧ J b 18 = I b 18 := fun hn => by
    obtain ⟨K, k1, k2, k3, k4⟩ := Ben_needs_l (ρ := ρ) (d := d) (c := c) (L := L) (v := v) hx (P.2.2.1 x).length 0 T I (by omega) h' hv hca
    rw [List.drop_zero] at k1 k2
    obtain ⟨f1, f2, f3, f4⟩ := tNeeds_f (x := x) hV (P.2.2.1 x) T hv (ne_lt hV hx)
    rw [bBen_endsWith_45, k1]
    unfold tWrong
    rw [hn]
    dsimp only
    by_cases e : (tNeeds P x (P.2.2.1 x) T).1.1 = 0
    · rw [if_pos e, e]
      have eid : tcu (tNeeds P x (P.2.2.1 x) T) x = (tNeeds P x (P.2.2.1 x) T).2 := tcu_id (by rw [f1.2.2.2.1, f3.2 (Or.inl e)]; exact hca)
      rw [eid] at k2
      have ht2 : (tNeeds P x (P.2.2.1 x) T).2.2.2.2.1 x = [] := by rw [f4]; exact ht
      obtain ⟨J, j1, j2, j3, j4, j5⟩ := Ben_steps_l (ρ := ρ) (d := d) (c := c) (L := L) hx hvn (P.2.2.2.1 v).length 0 _ K (by omega) k2 f2 (by rw [f1.2.2.2.1]; exact hca) (by rw [ht2]; simpa using h6)
      obtain ⟨s1, s2, s3, s4, s5, s6⟩ := tSteps_f hV hx (P.2.2.2.1 v) _ f2 (sp_oks hV hvn) (by rw [ht2]; simpa using h6)
      rw [List.drop_zero] at j1 j2
      rw [Nat.zero_add] at j1
      rw [pk_mul, Nat.mul_comm v 6]
      refine ⟨J, _, j1, j2, s5, ?_, k3.tr j3, by rw [j4, k4], by rw [j5, k4]⟩
      rw [s4, va_up_self, ht2, List.nil_append]
    · rw [if_neg e, Ben_steps_x k2 hx hvn (by omega) (Or.inl e) f3.1]
      have hZ : FZ [5, 12, 13, 14, 15, 16, 17] b I (z2 K (b + 3) x (nI (tNeeds P x (P.2.2.1 x) T).1.1)) := k3.zk (by decide) (by decide)
      refine ⟨_, 0, rfl, CX_to h' (CR_re (by omega) _ hb k2.2.2.2.2) hZ.1, Nat.zero_le _, ?_, hZ, by rw [z2_ne (by omega), k4], by rw [z2_ne (by omega), k4]⟩
      rw [f4]
      exact ht
  rw [bBen_endsWith_7, zob (xb_o hb), hR, zrs, zob (xp_o hp), xp_F6 hp, zrs, zar (xp_a4 hp), zidx_n (by omega) (by decide), (hC.2.2.2.2.1 x hx).1]
  cases ep : P.2.1 x with
  | none =>
    rw [show eO (none : Option Nat) = -1 from rfl, if_pos rfl]
    exact go (by unfold pNo; rw [ep])
  | some y =>
    have hyx := hV.2.2.2.1 x hx y ep
    have h3y := hv.1 y
    rw [eO_s, if_neg (nI_m1 (by omega)), zob (xb_o hb), xb_F2 hb, zrs, zar (xb_a1 hb), zidx_n (by omega) (by decide), (hT.1 y (by omega)).1]
    by_cases e3 : T.1.1.1.1 y = 3
    · rw [if_pos (by rw [e3])]
      exact go (by unfold pNo; rw [ep]; dsimp only; rw [if_pos e3])
    · rw [if_neg (by rw [nI_eq (by omega) (by decide)]; exact e3), zob (xb_o hb), xb_F5 hb, zrs, zar (xb_a4 hb), zidx_n (by omega) (by decide)]
      have hn : pNo P T x = some y := by unfold pNo; rw [ep]; dsimp only; rw [if_neg e3]
      have hA := CR_ca (show x < 12 by omega) (nI y) hb hT
      have hZ1 : FZ [5, 12, 13, 14, 15, 16, 17] b I (z2 I (b + 4) x (nI y)) := FZ.rf.zk (by decide) (by decide)
      have hZ : FZ [5, 12, 13, 14, 15, 16, 17] b I (z2 (z2 I (b + 4) x (nI y)) (b + 3) x (nI 1)) := hZ1.zk (by decide) (by decide)
      have hX1 := CX_to h' hA hZ1.1
      rw [bBen_endsWith_45, Ben_needs_x hX1 hx (by decide) (by decide), Ben_steps_x hX1 hx hvn (by omega) (Or.inl (by decide)) (by decide)]
      unfold tWrong
      rw [hn]
      exact ⟨_, 0, rfl, CX_to h' (CR_re (show x < 12 by omega) _ hb hA) hZ.1, Nat.zero_le _, ht, hZ, by rw [z2_ne (by omega), z2_ne (by omega)], by rw [z2_ne (by omega), z2_ne (by omega)]⟩
theorem tRea_eq {x v : Nat} (hca : (tWrong P T x v).2.1.1.2.2 = T.1.1.2.2) : u_re (tcu (tWrong P (u_ca T (va_up T.1.1.2.2 x (-1))) x v) x) (va_up (tcu (tWrong P (u_ca T (va_up T.1.1.2.2 x (-1))) x v) x).1.1.2.1 x (nI (tWrong P (u_ca T (va_up T.1.1.2.2 x (-1))) x v).1.1)) = tRea P T x v := by
  rw [tWrong_ca]
  unfold tcu tRea
  show u_re (u_ca (tWrong P T x v).2 (va_up (va_up T.1.1.2.2 x (-1)) x (tWrong P T x v).1.2)) (va_up (tWrong P T x v).2.1.1.2.1 x (nI (tWrong P T x v).1.1)) = u_ca (u_re (tWrong P T x v).2 (va_up (tWrong P T x v).2.1.1.2.1 x (nI (tWrong P T x v).1.1))) (va_up (tWrong P T x v).2.1.1.2.2 x (tWrong P T x v).1.2)
  rw [bx_uu, hca]
/-- up to the end of the steps -/
theorem Ben_wrong_e (h : CX P b p T R I) (hv : TV P T) {x v : Nat} (hx : x < P.1.1) (hvn : v < P.1.2.1) (ht : T.2.2.2.1 x = []) : ∃ J m, EV ρ (d + 4) 163 0 [.ref b, .int (nI x), .int (nI v), zU, zU, zU, zU, zU] [] (mk c R I L) = EV ρ (d + 4) 163 208 [.ref b, .int (nI x), .int (nI v), zU, .int (nI (tWrong P T x v).1.1), .int (nI m), zU, zU] [] (mk c R J L) ∧ CX P b p (tRea P T x v) R J ∧ m ≤ (P.2.2.2.1 v).length ∧ (tWrong P T x v).2.2.2.2.1 x = ((P.2.2.2.1 v).take m).filter isT ∧ FZ [5, 12, 13, 14, 15, 16, 17] b I J ∧ J b 17 = I b 17 ∧ J b 18 = I b 18 := by
  have h' := h
  obtain ⟨hb, hV, hR, hC, hT⟩ := h
  have h12 := hV.1
  have hA := CR_ca (show x < 12 by omega) (-1) hb hT
  have hZ : FZ [5, 12, 13, 14, 15, 16, 17] b I (z2 I (b + 4) x (-1)) := FZ.rf.zk (by decide) (by decide)
  obtain ⟨J, m, j1, j2, j3, j4, j5, j6, j7⟩ := Ben_wrong0 (ρ := ρ) (d := d) (c := c) (L := L) (CX_to h' hA hZ.1) (TV_ca hv) hx hvn (va_up_self _ _ _) ht
  rw [tRea_eq (tWrong_f hV hv hx hvn ht).1.2.2.2.1] at j2
  rw [tWrong_ca] at j1 j4
  rw [bBen_endsWith_0, zob (xb_o hb), xb_F5 hb, zrs, zar (xb_a4 hb), zidx_n (by omega) (by decide), j1]
  exact ⟨J, m, rfl, j2, j3, j4, hZ.tr j5, by rw [j6, z2_ne (by omega)], by rw [j7, z2_ne (by omega)]⟩
/-- a probe of the bench, whole -/
theorem Ben_endsWith_e (h : CX P b p T R I) (hI : IV P T) (hH : CH P b T I) {x v : Nat} (hx : x < P.1.1) (hvn : v < P.1.2.1) (h3 : T.1.1.1.1 x ≠ 3) : ∃ J, EV ρ (d + 4) 163 0 [.ref b, .int (nI x), .int (nI v), zU, zU, zU, zU, zU] [] (mk c R I L) = some ([.int (bo (tEnd1 P T x v).1)], mk c R J L) ∧ CX P b p (tEnd1 P T x v).2 R J ∧ CH P b (tEnd1 P T x v).2 J ∧ FZ [12, 13, 16, 17] b I J ∧ J b 17 = I b 17 ∧ J b 18 = I b 18 + nI ((tEnd1 P T x v).2.2.2.2.2 - T.2.2.2.2) := by
  have h' := h
  obtain ⟨hb, hV, hR, hC, hT⟩ := h
  have h12 := hV.1
  have hv := hI.1.1
  have ht := hI.1.2.1 x h3
  obtain ⟨f1, f2, f3⟩ := tWrong_f hV hv hx hvn ht
  have hco := (tWrong_g hV hI.1 hI.2.2.2.1 hx hvn h3).2
  have hP := tProbe_v hV hI hx hvn h3
  obtain ⟨K, m, k1, k2, k3, k4, k5, k6, k7⟩ := Ben_wrong_e (ρ := ρ) (d := d) (c := c) (L := L) h' hv hx hvn ht
  have hRV : TV P (tRea P T x v) := TV_ca (TV_re f2)
  rw [k1, bBen_endsWith_208]
  unfold tEnd1
  by_cases e : (tWrong P T x v).1.1 = 0
  · have ep : tProbe P T x v = (0, tHold (tRea P T x v) x v) := by unfold tProbe; rw [if_pos e]
    rw [ep] at hP
    rw [ep, if_neg (show ¬ ((0 : Nat) = 1 ∨ (0 : Nat) = 2) by decide), if_pos ((nn1 (by omega)).mpr e), zob (xb_o hb)]
    have eb : (tHold (tRea P T x v) x v).1.2.2.1 = T.1.2.2.1 ++ x :: [] := by show (tWrong P T x v).2.1.2.2.1 ++ [x] = _; rw [f1.2.2.2.2.2.2.1]
    have est : ∀ y, y ≠ x → (tHold (tRea P T x v) x v).1.1.1.1 y = T.1.1.1.1 y := fun y hy => by
      show va_up (tWrong P T x v).2.1.1.1.1 x 3 y = _
      rw [va_up_ne _ _ hy, f1.1]
    have hlow : ∀ o, hg P (tHold (tRea P T x v) x v) o x = true → ∃ A1 A2, T.1.2.2.1 = A1 ++ o :: A2 := fun o ho => low_b hV hP eb ho
    have hc : ∀ y, T.1.1.1.1 y = 3 → (tHold (tRea P T x v) x v).2.1.1.1 y = T.2.1.1.1 y := fun y hy => hco.1 y (fun z => h3 (z ▸ hy))
    have hl := bnd_12 hV hP.1.1
    rw [eb] at hl
    simp at hl
    obtain ⟨J, j1, j2, j3, j4, j5, j6⟩ := Ben_hold_e (ρ := ρ) (d := d) (c := c) (L := L) (x := x) (v := v) (f := fun o => hgF P T 13 o) k2 hRV hx (by show (tWrong P T x v).2.1.1.1.1 x ≠ 3; rw [f1.1]; exact h3) (fun o => hgF_le P T 13 o) (fun o ho hgo => by
      obtain ⟨A1, A2, e2⟩ := hlow o hgo
      have hs := ((hv.2.2.1.2 o).mp (by rw [e2]; simp)).2
      rw [k5.2 5 (by decide)]
      exact hH o ho hs)
    rw [j1, zcv, bBen_endsWith_219]
    refine ⟨J, rfl, j2, fun y hy hy3 => ?_, (k5.mo (by decide)).tr j3, j5.trans k6, ?_⟩
    · rw [j4]
      by_cases ey : y = x
      · subst ey
        rw [va_up_self]
        have e2 : (fun (k : Nat) (o : Nat) => if hg P (tRea P T y v) o y then max k (hgF P T 13 o + 1) else k) = (fun (k : Nat) (o : Nat) => if hg P (tHold (tRea P T y v) y v) o y then max k (hgF P (tHold (tRea P T y v) y v) 12 o + 1) else k) := by
          funext k o
          show (if hg P (tHold (tRea P T y v) y v) o y then max k (hgF P T 13 o + 1) else k) = _
          by_cases e3 : hg P (tHold (tRea P T y v) y v) o y = true
          · rw [if_pos e3, if_pos e3]
            obtain ⟨A1, A2, e4⟩ := hlow o e3
            rw [e4] at hl
            simp at hl
            rw [hgF_to (U := tHold (tRea P T y v) y v) hV hI hc 12 13 o A1 A2 e4 (by omega) (by omega)]
          · rw [if_neg e3, if_neg e3]
        rw [e2]
        rfl
      · rw [va_up_ne _ _ ey, k5.2 5 (by decide)]
        have hys : T.1.1.1.1 y = 3 := by rw [← est y ey]; exact hy3
        rw [hH y hy hys]
        obtain ⟨A, B, e4⟩ := List.append_of_mem ((hv.2.2.1.2 y).mpr ⟨hy, hys⟩)
        rw [e4] at hl
        simp at hl
        rw [hgF_to (U := tHold (tRea P T x v) x v) hV hI hc 13 13 y A B e4 (by omega) (by omega)]
    · rw [j6, k7]
      have : (tHold (tRea P T x v) x v).2.2.2.2 - T.2.2.2.2 = 1 := by
        have : (tHold (tRea P T x v) x v).2.2.2.2 = T.2.2.2.2 + 1 := by show (tWrong P T x v).2.2.2.2.2 + 1 = _; rw [f1.2.2.2.2.2.2.2.2.2.2]
        omega
      rw [this]
  · have ep : tProbe P T x v = ((tWrong P T x v).1.1, tLog (tRelease (tRea P T x v) x) (if (tWrong P T x v).1.1 < 3 then nI 2 else nI 3) (nI x) (nI v)) := by unfold tProbe; rw [if_neg e]
    rw [ep] at hP
    obtain ⟨r1, r2, r3, r4, r5, r6, r7, r8, r9, -⟩ := tRelease_f (tRea P T x v) x
    obtain ⟨J, j1, j2, j3, j4, j5⟩ := Ben_release_e (ρ := ρ) (d := d) (c := c) (L := L) (n := m) k2 (show x < 12 by omega) hvn k3 k4
    have hw7 := f3.1
    have ecn : (tRelease (tRea P T x v) x).2.2.2.2 = T.2.2.2.2 := by rw [r9]; exact f1.2.2.2.2.2.2.2.2.2.2
    have est : (tRelease (tRea P T x v) x).1.1.1.1 = T.1.1.1.1 := by rw [r2]; exact f1.1
    have hc : ∀ y, T.1.1.1.1 y = 3 → (tRelease (tRea P T x v) x).2.1.1.1 y = T.2.1.1.1 y := fun y hy => by
      have hne : y ≠ x := fun z => h3 (z ▸ hy)
      rw [r7, va_up_ne _ _ hne]
      exact hco.1 y hne
    have hF : FZ [5, 12, 13, 16, 17] b I J := (k5.mo (by decide)).tr j3
    rw [ep, if_neg (by rw [nn1 (by omega)]; exact e), zob (xb_o hb), j1, zcv, bBen_endsWith_229]
    dsimp only
    by_cases e2 : (tWrong P T x v).1.1 = 1 ∨ (tWrong P T x v).1.1 = 2
    · obtain ⟨K2, g1, g2, g3, g4⟩ := Ben_logZ (ρ := ρ) (d := d + 1) (c := c) (L := L) j2 (nI 2) (nI x) (nI v)
      rw [if_pos e2]
      rw [if_pos (show (tWrong P T x v).1.1 < 3 by omega)] at hP ⊢
      obtain ⟨K3, i1, i2, i3, i4⟩ := Ben_defer_e (ρ := ρ) (d := d + 1) (c := c) (L := L) g2 (hP.1.1.row hV) (x := x) (by omega)
      have hF2 : FZ [5, 12, 13, 16, 17] b I K3 := (hF.tr g3).tr (i3.mo (by decide))
      refine ⟨K3, ?_, i2, CH_to hH hV hI (fun y hy => ?_) hc (hF2.2 5 (by decide)), hF2.mo (by decide), by rw [i4, g4, j4, k6], ?_⟩
      · rcases e2 with e2 | e2
        · rw [e2, if_pos rfl, zob (xb_o hb), xb_F1 hb, zrs, zob (xb_oj hb), g1, zcv, bBen_endsWith_267, if_neg (by decide), zob (xb_o hb), i1, zcv, bBen_endsWith_277]
          rfl
        · rw [e2, if_neg (by decide), if_pos rfl, zob (xb_o hb), xb_F1 hb, zrs, zob (xb_oj hb), g1, zcv, bBen_endsWith_267, if_neg (by decide), zob (xb_o hb), i1, zcv, bBen_endsWith_277]
          rfl
      · have hy : va_up (tRelease (tRea P T x v) x).1.1.1.1 x 2 y = 3 := hy
        rw [est] at hy
        exact (st_3 h3 (by decide) y).mp hy
      · show K3 b 18 = I b 18 + nI ((tRelease (tRea P T x v) x).2.2.2.2 - T.2.2.2.2)
        rw [i4, g4, j5, k7, ecn, Nat.sub_self]
        exact (Int32.add_zero _).symm
    · obtain ⟨K2, g1, g2, g3, g4⟩ := Ben_logZ (ρ := ρ) (d := d + 1) (c := c) (L := L) j2 (nI 3) (nI x) (nI v)
      rw [if_neg e2, if_neg (show ¬ (tWrong P T x v).1.1 < 3 by omega)]
      have hF2 : FZ [5, 12, 13, 16, 17] b I K2 := hF.tr g3
      refine ⟨K2, ?_, g2, CH_to hH hV hI (fun y hy => ?_) hc (hF2.2 5 (by decide)), hF2.mo (by decide), by rw [g4, j4, k6], ?_⟩
      · rw [if_neg (by rw [nI_eq (by omega) (by decide)]; omega), if_neg (by rw [nI_eq (by omega) (by decide)]; omega), zob (xb_o hb), xb_F1 hb, zrs, zob (xb_oj hb), g1, zcv, bBen_endsWith_267, if_pos (by decide), bBen_endsWith_277, decide_eq_false (by omega)]
        rfl
      · have hy : (tRelease (tRea P T x v) x).1.1.1.1 y = 3 := hy
        rw [est] at hy
        exact hy
      · show K2 b 18 = I b 18 + nI ((tRelease (tRea P T x v) x).2.2.2.2 - T.2.2.2.2)
        rw [g4, j5, k7, ecn, Nat.sub_self]
        exact (Int32.add_zero _).symm
end CEND1
