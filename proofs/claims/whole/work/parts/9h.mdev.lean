-- THE REFERENCE READS: a device
section MDEV
variable {ρ : Nat × (Nat → Int32)} {d : Nat} {c : Nat × Nat} {R : Nat → Nat → Option Nat} {I J : Nat → Nat → Int32} {L L' : Nat → Nat → Int64} {n : Nat} {t : Nat → Nat} {sd m u b : Nat} {Q Q' : QT} {K : Tk} {e : Nat}
theorem ap_at {α : Type} {l : List α} {z y : α} {k : Nat} (h : (l ++ [z])[k]? = some y) : l[k]? = some y ∨ k = l.length ∧ y = z := by
  by_cases hk : k < l.length
  · rw [List.getElem?_append_left hk] at h; exact .inl h
  · rw [List.getElem?_append_right (by omega)] at h
    have h0 : k - l.length = 0 := by
      have := (List.getElem?_eq_some_iff.mp h).1
      simp only [List.length_singleton] at this
      omega
    rw [h0] at h
    cases h
    exact .inr ⟨by omega, rfl⟩
theorem RM_need {s : Nat} (hB : QB Q) (hl : (Q.2.2.1 Q.1.1).length < 3) (h : RM m u Q b I L) : RM m u (q_ne Q (va_up Q.2.2.1 Q.1.1 (Q.2.2.1 Q.1.1 ++ [s]))) b (z2 (z2 I 265 (3 * (12 * b + Q.1.1) + (Q.2.2.1 Q.1.1).length) (nI s)) 264 (12 * b + Q.1.1) (nI ((Q.2.2.1 Q.1.1).length + 1))) L := by
  obtain ⟨h1, h2, h3, h4, h5, h6, h7⟩ := h
  refine ⟨?_, h2, ?_, ?_, fun x hx => ?_, ?_, ?_⟩
  · unfold RMc at h1 ⊢; rw [z2_ne (by decide), z2_ne (by decide)]; exact h1
  · unfold RMi at h3 ⊢; rw [z2_ne (by decide), z2_ne (by decide), z2_ne (by decide), z2_ne (by decide)]; exact h3
  · unfold RMp at h4 ⊢; rw [z2_ne (by decide), z2_ne (by decide)]; exact h4
  · obtain ⟨g1, g2⟩ := h5 x hx
    show _ = nI (va_up Q.2.2.1 Q.1.1 (Q.2.2.1 Q.1.1 ++ [s]) x).length ∧ ∀ k z, (va_up Q.2.2.1 Q.1.1 (Q.2.2.1 Q.1.1 ++ [s]) x)[k]? = some z → _
    by_cases ex : x = Q.1.1
    · subst ex
      rw [va_up_self, z2_at]
      refine ⟨by rw [List.length_append]; rfl, fun k z hz => ?_⟩
      rw [z2_ne (by decide)]
      rcases ap_at hz with g | ⟨g, g'⟩
      · have := (List.getElem?_eq_some_iff.mp g).1
        rw [z2a, if_neg (by omega)]; exact g2 k z g
      · rw [g, g', z2_at]
    · rw [va_up_ne _ _ ex, z2a, if_neg (by omega), z2_ne (by decide)]
      refine ⟨g1, fun k z hz => ?_⟩
      have hk := (List.getElem?_eq_some_iff.mp hz).1
      have := (hB.2.1 x).1
      rw [z2_ne (by decide), z2a, if_neg (by omega)]
      exact g2 k z hz
  · unfold RMt at h6 ⊢; rw [z2_ne (by decide), z2_ne (by decide), z2_ne (by decide), z2_ne (by decide), z2_ne (by decide), z2_ne (by decide)]; exact h6
  · unfold RMs at h7 ⊢; rw [z2_ne (by decide), z2_ne (by decide), z2_ne (by decide), z2_ne (by decide), z2_ne (by decide), z2_ne (by decide)]; exact h7
theorem RM_nd {w : List Nat} (hw : Q.2.2.2.2.1 Q.1.1 = w) (h : RM m u Q b I L) : RM m u (q_nd Q (Q.1.1 + 1)) b (z2 I 259 (3 * b) (nI (Q.1.1 + 1))) (z2 L 260 (12 * b + Q.1.1) (c56 w)) := by
  obtain ⟨⟨r1, r2, r3⟩, ⟨s1, s2, s3⟩, h3, h4, h5, h6, h7⟩ := h
  refine ⟨⟨?_, ?_, ?_⟩, ⟨fun x hx => ?_, fun x hx => ?_, fun x hx => ?_⟩, ?_, ?_, ?_, ?_, ?_⟩
  · rw [z2_at]
  · rw [z2a, if_neg (by omega)]; exact r2
  · rw [z2a, if_neg (by omega)]; exact r3
  · have hx' : x < Q.1.1 + 1 := hx
    by_cases ex : x = Q.1.1
    · rw [ex, z2_at, ← hw]
    · rw [z2a, if_neg (by omega)]; exact s1 x (by omega)
  · rw [z2_ne (by decide)]; exact s2 x hx
  · rw [z2_ne (by decide)]; exact s3 x hx
  · unfold RMi at h3 ⊢; rw [z2_ne (by decide), z2_ne (by decide)]; exact h3
  · unfold RMp at h4 ⊢; rw [z2_ne (by decide)]; exact h4
  · unfold RMe at h5 ⊢; rw [z2_ne (by decide), z2_ne (by decide)]; exact h5
  · unfold RMt at h6 ⊢; rw [z2_ne (by decide), z2_ne (by decide), z2_ne (by decide)]; exact h6
  · unfold RMs at h7 ⊢; rw [z2_ne (by decide), z2_ne (by decide), z2_ne (by decide)]; exact h7
theorem RM_pa {y : Nat} (h : RM m u Q b I L) : RM m u (q_pa Q (va_up Q.2.1 Q.1.1 (some y))) b (z2 I 263 (12 * b + Q.1.1) (nI y)) L := by
  obtain ⟨h1, h2, h3, h4, h5, h6, h7⟩ := h
  refine ⟨?_, h2, ?_, fun x hx => ?_, ?_, ?_, ?_⟩
  · unfold RMc at h1 ⊢; rw [z2_ne (by decide)]; exact h1
  · unfold RMi at h3 ⊢; rw [z2_ne (by decide), z2_ne (by decide)]; exact h3
  · show _ = eO (va_up Q.2.1 Q.1.1 (some y) x)
    by_cases ex : x = Q.1.1
    · rw [ex, z2_at, va_up_self]; rfl
    · rw [z2a, if_neg (by omega), va_up_ne _ _ ex]; exact h4 x hx
  · unfold RMe at h5 ⊢; rw [z2_ne (by decide), z2_ne (by decide)]; exact h5
  · unfold RMt at h6 ⊢; rw [z2_ne (by decide), z2_ne (by decide), z2_ne (by decide)]; exact h6
  · unfold RMs at h7 ⊢; rw [z2_ne (by decide), z2_ne (by decide), z2_ne (by decide)]; exact h7
theorem RM_dv {w i : List Nat} (hB : QB Q) (hi : i.length ≤ 8) (hp : Q.2.1 Q.1.1 = none) (hne : Q.2.2.1 Q.1.1 = []) (h : RM Q.1.1 u Q b I L) (hJ : ∀ q j, q ≠ 257 → ¬ (q = 261 ∧ 8 * (12 * b + Q.1.1) ≤ j ∧ j < 8 * (12 * b + Q.1.1) + 8) → J q j = I q j) (hL : ∀ q, q ≠ 257 → L' q = L q) (hJi : ∀ k z, i[k]? = some z → J 261 (8 * (12 * b + Q.1.1) + k) = nI z) : RM (Q.1.1 + 1) u (yDv Q w i) b (z2 (z2 (z2 J 262 (12 * b + Q.1.1) (nI i.length)) 263 (12 * b + Q.1.1) (-1)) 264 (12 * b + Q.1.1) (nI 0)) L' := by
  have hc : ∀ q, q ≠ 257 → q ≠ 261 → J q = I q := fun q h1 h2 => by funext j; exact hJ q j h1 (by omega)
  obtain ⟨h1, ⟨s1, s2, s3⟩, h3, h4, h5, h6, h7⟩ := h
  refine ⟨?_, ⟨fun x hx => ?_, fun x hx => ?_, fun x hx => ?_⟩, fun x hx => ?_, fun x hx => ?_, fun x hx => ?_, ?_, ?_⟩
  · unfold RMc at h1 ⊢; rw [z2_ne (by decide), z2_ne (by decide), z2_ne (by decide), hc 259 (by decide) (by decide)]; exact h1
  · have hx' : x < Q.1.1 := hx
    rw [hL 260 (by decide)]
    show _ = c56 (va_up Q.2.2.2.2.1 Q.1.1 w x)
    rw [va_up_ne _ _ (by omega)]
    exact s1 x hx
  · rw [hL 266 (by decide)]; exact s2 x hx
  · rw [hL 273 (by decide)]; exact s3 x hx
  · show _ = nI (va_up Q.2.2.2.2.2.1 Q.1.1 i x).length ∧ ∀ k z, (va_up Q.2.2.2.2.2.1 Q.1.1 i x)[k]? = some z → _
    by_cases ex : x = Q.1.1
    · subst ex
      rw [va_up_self, z2_ne (by decide), z2_ne (by decide), z2_at]
      exact ⟨rfl, fun k z hz => by rw [z2_ne (by decide), z2_ne (by decide), z2_ne (by decide)]; exact hJi k z hz⟩
    · obtain ⟨g1, g2⟩ := h3 x (by omega)
      rw [va_up_ne _ _ ex, z2_ne (by decide), z2_ne (by decide), z2a, if_neg (by omega), hc 262 (by decide) (by decide)]
      refine ⟨g1, fun k z hz => ?_⟩
      have hk := (List.getElem?_eq_some_iff.mp hz).1
      have := (hB.2.2.2.2 x).1
      rw [z2_ne (by decide), z2_ne (by decide), z2_ne (by decide), hJ 261 _ (by decide) (by omega)]
      exact g2 k z hz
  · show _ = eO (Q.2.1 x)
    rw [z2_ne (by decide)]
    by_cases ex : x = Q.1.1
    · rw [ex, z2_at, hp]; rfl
    · rw [z2a, if_neg (by omega), z2_ne (by decide), hc 263 (by decide) (by decide)]; exact h4 x (by omega)
  · show _ = nI (Q.2.2.1 x).length ∧ ∀ k z, (Q.2.2.1 x)[k]? = some z → _
    by_cases ex : x = Q.1.1
    · subst ex
      rw [z2_at, hne]
      exact ⟨rfl, fun k z hz => by cases hz⟩
    · rw [z2a, if_neg (by omega), z2_ne (by decide), z2_ne (by decide), hc 264 (by decide) (by decide), z2_ne (by decide), z2_ne (by decide), z2_ne (by decide), hc 265 (by decide) (by decide)]
      exact h5 x (by omega)
  · unfold RMt at h6 ⊢
    rw [z2_ne (by decide), z2_ne (by decide), z2_ne (by decide), hc 267 (by decide) (by decide), z2_ne (by decide), z2_ne (by decide), z2_ne (by decide), hc 269 (by decide) (by decide), z2_ne (by decide), z2_ne (by decide), z2_ne (by decide), hc 268 (by decide) (by decide)]; exact h6
  · unfold RMs at h7 ⊢
    rw [z2_ne (by decide), z2_ne (by decide), z2_ne (by decide), hc 270 (by decide) (by decide), z2_ne (by decide), z2_ne (by decide), z2_ne (by decide), hc 271 (by decide) (by decide), z2_ne (by decide), z2_ne (by decide), z2_ne (by decide), hc 272 (by decide) (by decide)]; exact h7
/-- with a fault it goes out -/
theorem dl_f161 (h : FSt e I) (v1 v3 : Int32) (w : Int64) : EV ρ (d + 5) 29 161 [.ref 257, .int v1, zU, .int v3, .long w, zU, zU, zU] [] (mk c R I L) = some ([], mk c R I L) := by
  rw [bM_deviceLine_161, M_isWord_f (d := d + 3) h, zci, bM_deviceLine_167, if_pos (by decide), if_neg (FSt_n h).1]
theorem FSt_z {q j : Nat} {v : Int32} (hq : q ≠ 257) (h : FSt e I) : FSt e (z2 I q j v) := FSt_to h (by rw [z2_ne (Ne.symm hq)]) (by rw [z2_ne (Ne.symm hq)])
theorem dl_f70 {k : Nat} (hk : k < 24) (hb : 12 * b ≤ k) (hb2 : k < 12 * b + 12) (h : FSt e I) (v1 v2 x : Int32) (w : Int64) : ∃ J, EV ρ (d + 5) 29 70 [.ref 257, .int v1, .int v2, .int (nI k), .long w, zU, zU, zU] [.int x, .int (nI k), .ref 262] (mk c R I L) = some ([], mk c R J L) ∧ FPM b I J ∧ FSt e J := by
  rw [bM_deviceLine_70, zidx_n hk (by decide), bM_deviceLine_71, zidx_n hk (by decide), bM_deviceLine_78, zidx_n hk (by decide), bM_deviceLine_85]
  have hF : FSt e (z2 (z2 (z2 I 262 k x) 263 k (-1)) 264 k (nI 0)) := FSt_z (by decide) (FSt_z (by decide) (FSt_z (by decide) h))
  rw [M_isWord_f (d := d + 3) hF, zci, bM_deviceLine_91, if_pos (by decide), dl_f161 hF]
  refine ⟨_, rfl, FPM_z (FPM_z (FPM_z FPM_r (by decide) (by decide) ?_ ?_) (by decide) (by decide) ?_ ?_) (by decide) (by decide) ?_ ?_, hF⟩
  · show 12 * b ≤ k; exact hb
  · show k < 12 * b + 12; exact hb2
  · show 12 * b ≤ k; exact hb
  · show k < 12 * b + 12; exact hb2
  · show 12 * b ≤ k; exact hb
  · show k < 12 * b + 12; exact hb2
/-- the needs -/
theorem dl_needs {w : List Nat} : ∀ (f : Nat) (Q : QT) (K : Tk) (I : Nat → Nat → Int32) (L : Nat → Nat → Int64), TkI n t K → QN Q → QB Q → (Q.2.2.1 Q.1.1).length + f = 3 → Q.1.1 < 12 → Q.2.2.2.2.1 Q.1.1 = w → MS n t sd (Q.1.1 + 1) u Q K I L →
    ∃ J L', EV ρ (d + 5) 29 161 [.ref 257, .int (nI (1 - sd)), zU, .int (nI (12 * (1 - sd) + Q.1.1)), .long (c56 w), zU, zU, zU] [] (mk c R I L) = some ([], mk c R J L') ∧ FPM (1 - sd) I J ∧ FPM (1 - sd) L L' ∧ (match yNeeds n t f Q K with
      | .error e => FSt e J
      | .ok (Q', K') => MS n t sd (Q'.1.1 + 1) u (q_nd Q' (Q'.1.1 + 1)) K' J L') := by
  intro f
  induction f with
  | zero =>
    intro Q K I L hK hN hB hf h12 hw h
    have h' := h
    obtain ⟨a1, a2, a3, a4, a5, a6⟩ := h
    obtain ⟨⟨r1, r2, r3⟩, a7, a8, a9, a10, a11⟩ := id a6
    have hn := a1.2.1
    rw [bM_deviceLine_161, M_isWord_e (d := d + 3) hK a4 a5 (i := 3) (by decide) rfl, zci, bM_deviceLine_167]
    unfold yNeeds
    by_cases c1 : kW 3 K = true
    · rw [c1, if_neg (by decide), zidx_n (by omega) (by decide), (a10 Q.1.1 (by omega)).1, if_pos (by rw [show (Q.2.2.1 Q.1.1).length = 3 from by omega]), M_wrong_e (d := d + 3) a4, zcv, bM_deviceLine_185]
      have hF := FSt_w hK hn a5 (y := 4) (by decide) (by decide)
      rw [M_next_f (d := d + 3) hF, zcv, bM_deviceLine_189, if_neg (FSt_n hF).1]
      simp only [if_true]
      exact ⟨_, _, rfl, FPM_w FPM_r, FPM_r, hF⟩
    · have c1' : kW 3 K = false := by rw [Bool.eq_false_iff]; exact c1
      rw [c1', if_pos (by decide), a4, if_pos (by decide), zidx_n (by omega) (by decide), bM_deviceLine_245, pk_mul, zidx_n (by omega) (by decide), zidx_n (by omega) (by decide), r1, nI_add, bM_deviceLine_257]
      simp only [Bool.false_eq_true, if_false]
      refine ⟨_, _, rfl, FPM_z FPM_r (by decide) (by decide) ?_ ?_, FPM_z FPM_r (by decide) (by decide) ?_ ?_, MS_i (MS0_to (MS_0 h') (z2_ne (by decide)) (z2_ne (by decide)) (z2_ne (by decide))) (RM_nd hw a6)⟩
      · show 3 * (1 - sd) ≤ _; omega
      · show _ < 3 * (1 - sd) + 3; omega
      · show 12 * (1 - sd) ≤ _; omega
      · show _ < 12 * (1 - sd) + 12; omega
  | succ f ih =>
    intro Q K I L hK hN hB hf h12 hw h
    have h' := h
    obtain ⟨a1, a2, a3, a4, a5, a6⟩ := h
    obtain ⟨⟨r1, r2, r3⟩, a7, a8, a9, a10, a11⟩ := id a6
    have hn := a1.2.1
    rw [bM_deviceLine_161, M_isWord_e (d := d + 3) hK a4 a5 (i := 3) (by decide) rfl, zci, bM_deviceLine_167]
    unfold yNeeds
    by_cases c1 : kW 3 K = true
    · have hk1 := (kW_i.mp c1).1
      rw [c1, if_neg (by decide), zidx_n (by omega) (by decide), (a10 Q.1.1 (by omega)).1, if_neg (fun z => by have := (nI_eq (by omega) (by omega)).mp z; omega), bM_deviceLine_185]
      obtain ⟨J1, L1, b1, b2, b3, b4⟩ := MS_next (ρ := ρ) (d := d + 1) (c := c) (R := R) hK h' (by omega)
      obtain ⟨g1, g2, g3, g4, g5, g6⟩ := id b2
      rw [b1, zcv, bM_deviceLine_189, g4, if_pos (by decide), zidx_n (by omega) (by decide), (g6.2.2.2.2.1 Q.1.1 (by omega)).1, pk_mul, nI_add]
      obtain ⟨v, J2, L2, s1, s2, s3, s0, s4⟩ := M_supply_t (ρ := ρ) (d := d) (c := c) (R := R) (nxK_i hK) hN b2
      rw [s1, zci, bM_deviceLine_215, zidx_n (by omega) (by decide), bM_deviceLine_216, zidx_n (by omega) (by decide), zidx_n (by omega) (by decide), bM_deviceLine_226]
      simp only [if_true]
      have f1 : FPM (1 - sd) I (z2 (z2 J2 265 (3 * (12 * (1 - sd) + Q.1.1) + (Q.2.2.1 Q.1.1).length) v) 264 (12 * (1 - sd) + Q.1.1) (z2 J2 265 (3 * (12 * (1 - sd) + Q.1.1) + (Q.2.2.1 Q.1.1).length) v 264 (12 * (1 - sd) + Q.1.1) + nI 1)) := by
        refine FPM_z (FPM_z (FPM_t (FPM_7 b3) s2) (by decide) (by decide) ?_ ?_) (by decide) (by decide) ?_ ?_
        · show 36 * (1 - sd) ≤ _; omega
        · show _ < 36 * (1 - sd) + 36; omega
        · show 12 * (1 - sd) ≤ _; omega
        · show _ < 12 * (1 - sd) + 12; omega
      cases es : ySup Q (nxK n t K) with
      | error y =>
        rw [es] at s4
        rw [dl_f161 (FSt_z (by decide) (FSt_z (by decide) s4))]
        exact ⟨_, _, rfl, f1, FPM_t (FPM_7 b4) s3, FSt_z (by decide) (FSt_z (by decide) s4)⟩
      | ok y =>
        obtain ⟨Q1, s⟩ := y
        rw [es] at s4
        simp only at s4
        obtain ⟨y1, y2, y3, y4, y5⟩ := ySup_v (nxK_i hK) es hN hB
        have e1 : Q1.1.1 = Q.1.1 := by rw [y5]
        have e2 : Q1.2.2.1 = Q.2.2.1 := by rw [y5]
        have e3 : Q1.2.2.2.2.1 = Q.2.2.2.2.1 := by rw [y5]
        obtain ⟨z1, z2', z3, z4, z5, z6⟩ := id s4.2
        have hlen : ∀ x, (va_up Q1.2.2.1 Q1.1.1 (Q1.2.2.1 Q1.1.1 ++ [s]) x).length ≤ 3 ∧ ∀ z ∈ va_up Q1.2.2.1 Q1.1.1 (Q1.2.2.1 Q1.1.1 ++ [s]) x, z < Q1.1.2.2 := fun x => by
          by_cases ex : x = Q1.1.1
          · rw [ex, va_up_self]
            refine ⟨?_, fun z hz => ?_⟩
            · rw [List.length_append, e1, e2]; show _ + 1 ≤ 3; omega
            · rcases List.mem_append.mp hz with g | g
              · exact (y2.2.1 _).2 z g
              · rw [List.mem_singleton.mp g]; exact y3
          · rw [va_up_ne _ _ ex]; exact y2.2.1 x
        have hM : MS n t sd (Q1.1.1 + 1) u (q_ne Q1 (va_up Q1.2.2.1 Q1.1.1 (Q1.2.2.1 Q1.1.1 ++ [s]))) (nxK n t (nxK n t K)) (z2 (z2 J2 265 (3 * (12 * (1 - sd) + Q.1.1) + (Q.2.2.1 Q.1.1).length) v) 264 (12 * (1 - sd) + Q.1.1) (z2 J2 265 (3 * (12 * (1 - sd) + Q.1.1) + (Q.2.2.1 Q.1.1).length) v 264 (12 * (1 - sd) + Q.1.1) + nI 1)) L2 := by
          rw [← e1] at z6 ⊢
          have hv := (z6.2.2.2.2.1 Q1.1.1 (by omega)).1
          rw [s4.1, z2_ne (by decide), hv, nI_add, ← e2]
          refine MS_i (MS0_to (MS_0 s4.2) (by rw [z2_ne (by decide), z2_ne (by decide)]) (by rw [z2_ne (by decide), z2_ne (by decide)]) rfl) (RM_need y2 (by rw [e1, e2]; omega) z6)
        obtain ⟨J, L', b5, b6, b7, b8⟩ := ih (q_ne Q1 (va_up Q1.2.2.1 Q1.1.1 (Q1.2.2.1 Q1.1.1 ++ [s]))) (nxK n t (nxK n t K)) _ L2 (nxK_i (nxK_i hK)) y1 ⟨y2.1, hlen, y2.2.2⟩ (by show (va_up Q1.2.2.1 Q1.1.1 (Q1.2.2.1 Q1.1.1 ++ [s]) Q1.1.1).length + f = 3; rw [va_up_self, List.length_append, e1, e2]; show _ + 1 + f = 3; omega) (by show Q1.1.1 < 12; rw [e1]; exact h12) (by show Q1.2.2.2.2.1 Q1.1.1 = w; rw [e1, e3]; exact hw) hM
        have b5' : EV ρ (d + 5) 29 161 [.ref 257, .int (nI (1 - sd)), zU, .int (nI (12 * (1 - sd) + Q1.1.1)), .long (c56 w), zU, zU, zU] [] (mk c R ((z2 (z2 J2 265 (3 * (12 * (1 - sd) + Q.1.1) + (Q.2.2.1 Q.1.1).length) v) 264 (12 * (1 - sd) + Q.1.1) (z2 J2 265 (3 * (12 * (1 - sd) + Q.1.1) + (Q.2.2.1 Q.1.1).length) v 264 (12 * (1 - sd) + Q.1.1) + nI 1))) L2) = _ := b5
        rw [e1] at b5'
        rw [b5']
        exact ⟨J, L', rfl, FPM_t f1 b6, FPM_t (FPM_t (FPM_7 b4) s3) b7, b8⟩
    · have c1' : kW 3 K = false := by rw [Bool.eq_false_iff]; exact c1
      rw [c1', if_pos (by decide), a4, if_pos (by decide), zidx_n (by omega) (by decide), bM_deviceLine_245, pk_mul, zidx_n (by omega) (by decide), zidx_n (by omega) (by decide), r1, nI_add, bM_deviceLine_257]
      simp only [Bool.false_eq_true, if_false]
      refine ⟨_, _, rfl, FPM_z FPM_r (by decide) (by decide) ?_ ?_, FPM_z FPM_r (by decide) (by decide) ?_ ?_, MS_i (MS0_to (MS_0 h') (z2_ne (by decide)) (z2_ne (by decide)) (z2_ne (by decide))) (RM_nd hw a6)⟩
      · show 3 * (1 - sd) ≤ _; omega
      · show _ < 3 * (1 - sd) + 3; omega
      · show 12 * (1 - sd) ≤ _; omega
      · show _ < 12 * (1 - sd) + 12; omega
end MDEV
