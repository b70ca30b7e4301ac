-- PROBES in the reference: steps, what is wrong
theorem tNeeds_f {P : PT} {x : Nat} (hV : PV P) : ∀ (l : List Nat) (T : TT), TV P T → (∀ z ∈ l, z < 8) → PF T (tNeeds P x l T).2 ∧ TV P (tNeeds P x l T).2 ∧ okw (tNeeds P x l T).1 ∧ (tNeeds P x l T).2.2.2.2.1 = T.2.2.2.1
  | [], T, h, _ => ⟨PF.rf, h, ⟨Nat.le_of_ble_eq_true rfl, fun _ => rfl⟩, rfl⟩
  | z :: l, T, h, hz => by
    obtain ⟨g1, g2, g3, g4⟩ := tGets_f (x := x) hV h (hz z List.mem_cons_self)
    unfold tNeeds
    split
    · obtain ⟨k1, k2, k3, k4⟩ := tNeeds_f hV l _ g2 (fun w hw => hz w (List.mem_cons_of_mem _ hw))
      exact ⟨g1.tr k1, k2, k3, k4.trans g4⟩
    · exact ⟨g1, g2, g3, g4⟩
noncomputable def tDone (P : PT) (x : Nat) : List (Nat × Nat) → TT → Nat
  | [], _ => 0
  | z :: l, T => if (tDo P T x z).1.1 = 0 then tDone P x l (tDo P T x z).2 + 1 else 0
theorem va_id {α : Type} (f : Nat → α) (x : Nat) : va_up f x (f x) = f := by
  funext y
  unfold va_up
  split
  · subst y; rfl
  · rfl
theorem tSteps_f {P : PT} {x : Nat} (hV : PV P) (hx : x < P.1.1) : ∀ (l : List (Nat × Nat)) (T : TT), TV P T → (∀ z ∈ l, oks z) → (T.2.2.2.1 x).length + l.length ≤ 6 → PF T (tSteps P x l T).2 ∧ TV P (tSteps P x l T).2 ∧ okw (tSteps P x l T).1 ∧ (tSteps P x l T).2.2.2.2.1 = va_up T.2.2.2.1 x (T.2.2.2.1 x ++ (l.take (tDone P x l T)).filter isT) ∧ tDone P x l T ≤ l.length ∧ ((tSteps P x l T).1.1 = 0 → tDone P x l T = l.length)
  | [], T, h, _, _ => ⟨PF.rf, h, ⟨Nat.le_of_ble_eq_true rfl, fun _ => rfl⟩, by rw [List.take_nil, List.filter_nil, List.append_nil, va_id]; rfl, Nat.le_refl _, fun _ => rfl⟩
  | z :: l, T, h, hz, hl => by
    rw [List.length_cons] at hl
    obtain ⟨g1, g2, g3, g4⟩ := tDo_f hV h hx (hz z List.mem_cons_self) (by omega)
    unfold tSteps tDone
    by_cases e : (tDo P T x z).1.1 = 0
    · rw [if_pos e, if_pos e]
      have hl2 : ((tDo P T x z).2.2.2.2.1 x).length + l.length ≤ 6 := by
        rw [g4, va_up_self]
        split
        · simp; omega
        · omega
      obtain ⟨k1, k2, k3, k4, k5, k6⟩ := tSteps_f hV hx l _ g2 (fun w hw => hz w (List.mem_cons_of_mem _ hw)) hl2
      refine ⟨g1.tr k1, k2, k3, ?_, by rw [List.length_cons]; omega, fun hh => by rw [List.length_cons, k6 hh]⟩
      rw [k4, g4, va_up_self, bx_uu, List.take_succ_cons]
      congr 1
      cases hi : isT z with
      | true => rw [if_pos ⟨e, rfl⟩, List.filter_cons_of_pos hi, List.append_assoc]; rfl
      | false => rw [if_neg (by simp), List.filter_cons_of_neg (by simp [hi])]
    · rw [if_neg e, if_neg e]
      refine ⟨g1, g2, g3, ?_, Nat.zero_le _, fun hh => absurd hh e⟩
      rw [g4, if_neg (fun z => e z.1), List.take_zero, List.filter_nil, List.append_nil]
theorem sp_oks {P : PT} (hV : PV P) {v : Nat} (hv : v < P.1.2.1) : ∀ z ∈ P.2.2.2.1 v, oks z := fun z hz => by
  obtain ⟨h1, h2, h3, h4, h5⟩ := (hV.2.2.2.2.2.1 v hv).2 z hz
  have := hV.2.2.1
  exact ⟨h1, h2, fun e => by have := h3 e; omega, fun e => by have := h4 e; omega, h5⟩
theorem ne_lt {P : PT} (hV : PV P) {x : Nat} (hx : x < P.1.1) : ∀ z ∈ P.2.2.1 x, z < 8 := fun z hz => by
  have := (hV.2.2.2.2.1 x hx).2 z hz
  have := hV.2.2.1
  omega
section MWRONG2
variable {ρ : Nat × (Nat → Int32)} {d : Nat} {c : Nat × Nat} {R : Nat → Nat → Option Nat} {I : Nat → Nat → Int32} {L : Nat → Nat → Int64} {P : PT} {sd : Nat} {T : TT}
theorem MX_up {s : Nat → Int32} {U : TT} (h : MX P sd T I) (hs : MR U s) : MX P sd U (va_up I 274 s) := ⟨h.1, PM_up _ h.2.1, by rw [va_s]; exact hs⟩
theorem M_does_e (h : MX P sd T I) (hv : TV P T) {x : Nat} {z : Nat × Nat} (hx : x < P.1.1) (hz : oks z) (hl : (T.2.2.2.1 x).length < 6) : ∃ J, EV ρ (d + 6) 49 0 [.ref 257, .int (nI x), .int (nI z.1), .int (nI z.2)] [] (mk c R I L) = some ([.int (nI (tDo P T x z).1.1)], mk c R J L) ∧ MX P sd (tDo P T x z).2 J ∧ FM I J ∧ J 257 31 = I 257 31 ∧ ((tDo P T x z).1.1 ≠ 0 → J 257 30 = (tDo P T x z).1.2) := by
  have h12 := h.1.1
  have hb := hv.bnd h.1
  obtain ⟨z1, hzl, hzg, hzv, z5⟩ := hz
  have h1 := MX_z2 (j := 30) (v := -1) h (by decide)
  have hF1 : FM I (z2 I 257 30 (-1)) := FM.rf.z2 (Or.inl rfl)
  have e31 : z2 I 257 30 (-1) 257 31 = I 257 31 := by rw [z2a, if_neg (by omega)]
  have e30 : z2 I 257 30 (-1) 257 30 = -1 := by rw [z2a, if_pos ⟨rfl, rfl⟩]
  have e274 : z2 I 257 30 (-1) 274 = I 274 := z2_ne (by decide)
  rw [bM_does_0, bM_does_5]
  unfold tDo
  by_cases k0 : z.1 = 0
  · rw [if_pos k0, k0, if_pos rfl]
    have ep : z2 I 257 30 (-1) 274 439 = T.2.2.1.1 := by rw [e274]; exact h.2.2.2.2.1.2.2.1
    rw [ep]
    by_cases hp : nI z.2 ≤ T.2.2.1.1
    · rw [if_pos hp, if_pos hp, bM_does_106]
      have e5 : ∀ v, z2 (z2 I 257 30 (-1)) 274 439 v = va_up (z2 I 257 30 (-1)) 274 (va_up (I 274) 439 v) := fun v => by
        rw [← e274]; rfl
      rw [e5]
      have h2 : MX P sd (u_pool T (T.2.2.1.1 - nI z.2)) (va_up (z2 I 257 30 (-1)) 274 (va_up (I 274) 439 (T.2.2.1.1 - nI z.2))) := MX_up h1 (MR_pool _ h.2.2 hb)
      obtain ⟨s, g1, g2⟩ := M_takes_e (ρ := ρ) (d := d + 4) (c := c) (R := R) (L := L) h2.2.2 hb (show x < 12 by omega) z hl
      rw [k0] at g1
      rw [g1, zcv, bM_does_157, bx_uu]
      exact ⟨_, rfl, MX_up h1 g2, hF1.up _, by rw [va_n (by decide)]; exact e31, fun z => absurd rfl z⟩
    · rw [if_neg hp, if_neg hp]
      exact ⟨_, rfl, h1, hF1, e31, fun _ => e30⟩
  · rw [if_neg k0, if_neg (by rw [nI_eq (by omega) (by decide)]; exact k0)]
    by_cases k1 : z.1 = 1
    · rw [if_pos k1, k1, if_pos rfl]
      have hz2 := hzl k1
      have el : z2 I 257 30 (-1) 274 (264 + z.2) = eO (T.2.1.1.2 z.2) := by rw [e274]; exact h.2.2.2.2.1.1 z.2 hz2
      rw [nI_add, zidx_n (by omega) (by decide), el, bM_does_57]
      have h2 := MX_z2 (j := 30) (v := eO (T.2.1.1.2 z.2)) h1 (by decide)
      have hF2 : FM I (z2 (z2 I 257 30 (-1)) 257 30 (eO (T.2.1.1.2 z.2))) := hF1.z2 (Or.inl rfl)
      have f30 : z2 (z2 I 257 30 (-1)) 257 30 (eO (T.2.1.1.2 z.2)) 257 30 = eO (T.2.1.1.2 z.2) := by rw [z2a, if_pos ⟨rfl, rfl⟩]
      have f31 : z2 (z2 I 257 30 (-1)) 257 30 (eO (T.2.1.1.2 z.2)) 257 31 = I 257 31 := by rw [z2a, if_neg (by omega)]; exact e31
      have f274 : z2 (z2 I 257 30 (-1)) 257 30 (eO (T.2.1.1.2 z.2)) 274 = I 274 := by rw [z2_ne (by decide)]; exact e274
      rw [f30]
      cases e : T.2.1.1.2 z.2 with
      | none =>
        rw [e] at h2 hF2 f30 f31 f274
        rw [if_pos (by decide), nI_add, zidx_n (by omega) (by decide), bM_does_77]
        have e5 : ∀ v, z2 (z2 (z2 I 257 30 (-1)) 257 30 (eO none)) 274 (264 + z.2) v = va_up (z2 (z2 I 257 30 (-1)) 257 30 (eO none)) 274 (va_up (I 274) (264 + z.2) v) := fun v => by
          rw [← f274]; rfl
        rw [e5]
        have h3 : MX P sd (u_ln T (va_up T.2.1.1.2 z.2 (some x))) (va_up (z2 (z2 I 257 30 (-1)) 257 30 (eO none)) 274 (va_up (I 274) (264 + z.2) (nI x))) := MX_up h2 (MR_ln hz2 (some x) h.2.2 hb)
        obtain ⟨s, g1, g2⟩ := M_takes_e (ρ := ρ) (d := d + 4) (c := c) (R := R) (L := L) h3.2.2 hb (show x < 12 by omega) z hl
        rw [k1] at g1
        rw [g1, zcv, bM_does_157, bx_uu]
        exact ⟨_, rfl, MX_up h2 g2, hF2.up _, by rw [va_n (by decide)]; exact f31, fun z => absurd rfl z⟩
      | some y =>
        have := hv.2.2.2.2.1 z.2 y e
        rw [e] at h2 hF2 f30 f31 f274
        rw [eO_s, if_neg (nI_pos (by omega))]
        exact ⟨_, rfl, h2, hF2, f31, fun _ => f30⟩
    · rw [if_neg k1, if_neg (by rw [nI_eq (by omega) (by decide)]; exact k1)]
      by_cases k2 : z.1 = 2
      · rw [if_pos k2, k2, if_pos rfl]
        obtain ⟨J, g1, g2, g3, g4, g5⟩ := M_gets_e (ρ := ρ) (d := d) (c := c) (R := R) (L := L) h1 hv hx (hzg k2)
        rw [g1, zci, bM_does_42]
        exact ⟨J, rfl, g2, hF1.tr g3, g4.trans e31, g5⟩
      · rw [if_neg k2, if_neg (by rw [nI_eq (by omega) (by decide)]; exact k2)]
        by_cases k3 : z.1 = 3
        · rw [if_pos k3, k3, if_pos rfl]
          have hz2 := hzv k3
          have el : z2 I 257 30 (-1) 274 (280 + z.2) = eO (T.2.1.2.1 z.2) := by rw [e274]; exact h.2.2.2.2.1.2.1 z.2 hz2
          rw [nI_add, zidx_n (by omega) (by decide), el, bM_does_123]
          have h2 := MX_z2 (j := 30) (v := eO (T.2.1.2.1 z.2)) h1 (by decide)
          have hF2 : FM I (z2 (z2 I 257 30 (-1)) 257 30 (eO (T.2.1.2.1 z.2))) := hF1.z2 (Or.inl rfl)
          have f30 : z2 (z2 I 257 30 (-1)) 257 30 (eO (T.2.1.2.1 z.2)) 257 30 = eO (T.2.1.2.1 z.2) := by rw [z2a, if_pos ⟨rfl, rfl⟩]
          have f31 : z2 (z2 I 257 30 (-1)) 257 30 (eO (T.2.1.2.1 z.2)) 257 31 = I 257 31 := by rw [z2a, if_neg (by omega)]; exact e31
          have f274 : z2 (z2 I 257 30 (-1)) 257 30 (eO (T.2.1.2.1 z.2)) 274 = I 274 := by rw [z2_ne (by decide)]; exact e274
          rw [f30]
          cases e : T.2.1.2.1 z.2 with
          | none =>
            rw [e] at h2 hF2 f30 f31 f274
            rw [if_pos (by decide), nI_add, zidx_n (by omega) (by decide), bM_does_144]
            have e5 : ∀ v, z2 (z2 (z2 I 257 30 (-1)) 257 30 (eO none)) 274 (280 + z.2) v = va_up (z2 (z2 I 257 30 (-1)) 257 30 (eO none)) 274 (va_up (I 274) (280 + z.2) v) := fun v => by
              rw [← f274]; rfl
            rw [e5]
            have h3 : MX P sd (u_gv T (va_up T.2.1.2.1 z.2 (some x))) (va_up (z2 (z2 I 257 30 (-1)) 257 30 (eO none)) 274 (va_up (I 274) (280 + z.2) (nI x))) := MX_up h2 (MR_gv hz2 (some x) h.2.2 hb)
            obtain ⟨s, g1, g2⟩ := M_takes_e (ρ := ρ) (d := d + 4) (c := c) (R := R) (L := L) h3.2.2 hb (show x < 12 by omega) z hl
            rw [k3] at g1
            rw [g1, zcv, bM_does_157, bx_uu]
            exact ⟨_, rfl, MX_up h2 g2, hF2.up _, by rw [va_n (by decide)]; exact f31, fun z => absurd rfl z⟩
          | some y =>
            have := hv.2.2.2.1 z.2 y e
            rw [e] at h2 hF2 f30 f31 f274
            rw [eO_s, if_neg (nI_pos (by omega))]
            exact ⟨_, rfl, h2, hF2, f31, fun _ => f30⟩
        · rw [if_neg k3, if_neg (by rw [nI_eq (by omega) (by decide)]; exact k3)]
          exact ⟨_, rfl, h1, hF1, e31, fun _ => e30⟩
theorem PM_ne (hP : PM P sd I) {x k z : Nat} (hx : x < P.1.1) (h : (P.2.2.1 x)[k]? = some z) : I 265 (3 * (12 * sd + x) + k) = nI z := (hP.2.2.2.2.2.1 x hx).2.2 k z h
theorem M_wrongOf_n {x v : Nat} (hx : x < P.1.1) : ∀ (n k : Nat) (T : TT) (I : Nat → Nat → Int32), k + n = (P.2.2.1 x).length → MX P sd T I → TV P T → ∃ J, EV ρ (d + 7) 50 32 [.ref 257, .int (nI x), .int (nI v), zU, .int (nI k), zU] [] (mk c R I L) = (if (tNeeds P x ((P.2.2.1 x).drop k) T).1.1 = 0 then EV ρ (d + 7) 50 86 [.ref 257, .int (nI x), .int (nI v), zU, .int (nI 0), zU] [] (mk c R J L) else some ([.int (nI (tNeeds P x ((P.2.2.1 x).drop k) T).1.1)], mk c R J L)) ∧ MX P sd (tNeeds P x ((P.2.2.1 x).drop k) T).2 J ∧ FM I J ∧ J 257 31 = I 257 31 ∧ ((tNeeds P x ((P.2.2.1 x).drop k) T).1.1 ≠ 0 → J 257 30 = (tNeeds P x ((P.2.2.1 x).drop k) T).1.2) := by
  intro n
  induction n with
  | zero =>
    intro k T I hk h hv
    have h12 := h.1.1
    have hsd := h.2.1.1
    have h3 := (h.1.2.2.2.2.1 x hx).1
    rw [List.drop_eq_nil_of_le (by omega)]
    refine ⟨I, ?_, h, FM.rf, rfl, fun z => absurd rfl z⟩
    rw [bM_wrongOf_32, M_dev_e h.2.1, zci, bM_wrongOf_43, zidx_n (by omega) (by decide), (h.2.1.2.2.2.2.2.1 x hx).2.1, if_pos (nI_le (by omega) (by omega))]
    rfl
  | succ n ih =>
    intro k T I hk h hv
    have h12 := h.1.1
    have hsd := h.2.1.1
    have h3 := (h.1.2.2.2.2.1 x hx).1
    have hk2 : k < (P.2.2.1 x).length := by omega
    have hz8 := ne_lt h.1 hx _ (List.getElem_mem hk2)
    rw [List.drop_eq_getElem_cons hk2, bM_wrongOf_32, M_dev_e h.2.1, zci, bM_wrongOf_43, zidx_n (by omega) (by decide), (h.2.1.2.2.2.2.2.1 x hx).2.1, if_neg (nI_ge hk2 (by omega)), M_dev_e h.2.1, zci, bM_wrongOf_59, pk_mul, nI_add, zidx_n (by omega) (by decide), PM_ne h.2.1 hx (List.getElem?_eq_getElem hk2)]
    obtain ⟨J, g1, g2, g3, g4, g5⟩ := M_gets_e (ρ := ρ) (d := d + 1) (c := c) (R := R) (L := L) h hv hx hz8
    rw [g1, zci, bM_wrongOf_67, nI_add]
    unfold tNeeds
    have hw := (tGets_f (x := x) h.1 hv hz8).2.2.1.1
    by_cases e : (tGets P T x (P.2.2.1 x)[k]).1.1 = 0
    · rw [if_pos (by rw [e]; decide), if_pos e]
      obtain ⟨J2, k1, k2, k3, k4, k5⟩ := ih (k + 1) _ J (by omega) g2 (tGets_f (x := x) h.1 hv hz8).2.1
      exact ⟨J2, k1, k2, g3.tr k3, k4.trans g4, k5⟩
    · rw [if_neg (nI_nle (by omega) (by omega)), if_neg e]
      exact ⟨J, by rw [if_neg e], g2, g3, g4, g5⟩
theorem M_wrongOf_s {x v : Nat} (hx : x < P.1.1) (hvn : v < P.1.2.1) : ∀ (n k : Nat) (T : TT) (I : Nat → Nat → Int32), k + n = (P.2.2.2.1 v).length → (T.2.2.2.1 x).length + n ≤ 6 → MX P sd T I → TV P T → ∃ J, EV ρ (d + 7) 50 86 [.ref 257, .int (nI x), .int (nI v), zU, .int (nI k), zU] [] (mk c R I L) = some ([.int (nI (tSteps P x ((P.2.2.2.1 v).drop k) T).1.1)], mk c R J L) ∧ MX P sd (tSteps P x ((P.2.2.2.1 v).drop k) T).2 J ∧ FM I J ∧ J 257 31 = I 257 31 ∧ ((tSteps P x ((P.2.2.2.1 v).drop k) T).1.1 ≠ 0 → J 257 30 = (tSteps P x ((P.2.2.2.1 v).drop k) T).1.2) := by
  intro n
  induction n with
  | zero =>
    intro k T I hk hl h hv
    have h12 := h.1.1
    have h8 := h.1.2.1
    have hsd := h.2.1.1
    have h6 := (h.1.2.2.2.2.2.1 v hvn).1
    rw [List.drop_eq_nil_of_le (by omega)]
    refine ⟨_, ?_, MX_z2 (j := 30) (v := -1) h (by decide), FM.rf.z2 (Or.inl rfl), by rw [z2a, if_neg (by omega)], fun z => absurd rfl z⟩
    rw [bM_wrongOf_86, M_drv_e h.2.1, zci, bM_wrongOf_97, zidx_n (by omega) (by decide), (h.2.1.2.2.2.2.2.2.1 v hvn).1, if_pos (nI_le (by omega) (by omega)), bM_wrongOf_159]
    rfl
  | succ n ih =>
    intro k T I hk hl h hv
    have h12 := h.1.1
    have h8 := h.1.2.1
    have hsd := h.2.1.1
    have h6 := (h.1.2.2.2.2.2.1 v hvn).1
    have hk2 : k < (P.2.2.2.1 v).length := by omega
    have hzs := sp_oks h.1 hvn _ (List.getElem_mem hk2)
    have hm := (h.2.1.2.2.2.2.2.2.1 v hvn).2 k _ (List.getElem?_eq_getElem hk2)
    rw [List.drop_eq_getElem_cons hk2, bM_wrongOf_86, M_drv_e h.2.1, zci, bM_wrongOf_97, zidx_n (by omega) (by decide), (h.2.1.2.2.2.2.2.2.1 v hvn).1, if_neg (nI_ge hk2 (by omega)), M_drv_e h.2.1, zci, bM_wrongOf_114, pk_mul, nI_add, zidx_n (by omega) (by decide), M_drv_e h.2.1, zci, bM_wrongOf_130, pk_mul, nI_add, zidx_n (by omega) (by decide), hm.1, hm.2]
    obtain ⟨J, g1, g2, g3, g4, g5⟩ := M_does_e (ρ := ρ) (d := d) (c := c) (R := R) (L := L) h hv hx hzs (by omega)
    obtain ⟨f1, f2, f3, f4⟩ := tDo_f h.1 hv hx hzs (by omega)
    rw [g1, zci, bM_wrongOf_138, nI_add]
    unfold tSteps
    have hw := f3.1
    by_cases e : (tDo P T x (P.2.2.2.1 v)[k]).1.1 = 0
    · rw [if_pos (by rw [e]; decide), if_pos e]
      have hl2 : ((tDo P T x (P.2.2.2.1 v)[k]).2.2.2.2.1 x).length + n ≤ 6 := by
        rw [f4, va_up_self]
        split
        · simp; omega
        · omega
      obtain ⟨J2, k1, k2, k3, k4, k5⟩ := ih (k + 1) _ J (by omega) hl2 g2 f2
      exact ⟨J2, k1, k2, g3.tr k3, k4.trans g4, k5⟩
    · rw [if_neg (nI_nle (by omega) (by omega)), if_neg e]
      exact ⟨J, rfl, g2, g3, g4, g5⟩
theorem tWrong_f {x v : Nat} (hV : PV P) (hv : TV P T) (hx : x < P.1.1) (hvn : v < P.1.2.1) (ht : T.2.2.2.1 x = []) : PF T (tWrong P T x v).2 ∧ TV P (tWrong P T x v).2 ∧ okw (tWrong P T x v).1 := by
  unfold tWrong
  have h3 := tNeeds_f (x := x) hV (P.2.2.1 x) T hv (ne_lt hV hx)
  cases e : pNo P T x with
  | some y => exact ⟨PF.rf, hv, ⟨Nat.le_of_ble_eq_true rfl, fun z => by rcases z with z | z | z <;> cases z⟩⟩
  | none =>
    dsimp only
    split
    · have h4 := tSteps_f hV hx (P.2.2.2.1 v) _ h3.2.1 (sp_oks hV hvn) (by rw [h3.2.2.2, ht]; have := (hV.2.2.2.2.2.1 v hvn).1; simpa using this)
      exact ⟨h3.1.tr h4.1, h4.2.1, h4.2.2.1⟩
    · exact ⟨h3.1, h3.2.1, h3.2.2.1⟩
theorem M_wrongOf_e (h : MX P sd T I) (hv : TV P T) {x v : Nat} (hx : x < P.1.1) (hvn : v < P.1.2.1) (ht : T.2.2.2.1 x = []) : ∃ J, EV ρ (d + 7) 50 0 [.ref 257, .int (nI x), .int (nI v), zU, zU, zU] [] (mk c R I L) = some ([.int (nI (tWrong P T x v).1.1)], mk c R J L) ∧ MX P sd (tWrong P T x v).2 J ∧ FM I J ∧ J 257 31 = I 257 31 ∧ ((tWrong P T x v).1.1 ≠ 0 → J 257 30 = (tWrong P T x v).1.2) := by
  have h12 := h.1.1
  have h1 := MX_z2 (j := 30) (v := eO (P.2.1 x)) h (by decide)
  have hF1 : FM I (z2 I 257 30 (eO (P.2.1 x))) := FM.rf.z2 (Or.inl rfl)
  have e31 : z2 I 257 30 (eO (P.2.1 x)) 257 31 = I 257 31 := by rw [z2a, if_neg (by omega)]
  have e30 : z2 I 257 30 (eO (P.2.1 x)) 257 30 = eO (P.2.1 x) := by rw [z2a, if_pos ⟨rfl, rfl⟩]
  rw [bM_wrongOf_0, M_parentOf_e h.2.1 h.1 hx, zci, bM_wrongOf_5, bM_wrongOf_11]
  unfold tWrong
  have rest : pNo P T x = none → ∃ J, EV ρ (d + 7) 50 32 [.ref 257, .int (nI x), .int (nI v), zU, .int (nI 0), zU] [] (mk c R (z2 I 257 30 (eO (P.2.1 x))) L) = some ([.int (nI (tWrong P T x v).1.1)], mk c R J L) ∧ MX P sd (tWrong P T x v).2 J ∧ FM I J ∧ J 257 31 = I 257 31 ∧ ((tWrong P T x v).1.1 ≠ 0 → J 257 30 = (tWrong P T x v).1.2) := by
    intro hp
    unfold tWrong
    rw [hp]
    dsimp only
    obtain ⟨J, g1, g2, g3, g4, g5⟩ := M_wrongOf_n (ρ := ρ) (d := d) (c := c) (R := R) (L := L) (v := v) hx (P.2.2.1 x).length 0 T _ (by omega) h1 hv
    rw [List.drop_zero] at g1 g2 g5
    have f := tNeeds_f (x := x) h.1 (P.2.2.1 x) T hv (ne_lt h.1 hx)
    rw [g1]
    by_cases e : (tNeeds P x (P.2.2.1 x) T).1.1 = 0
    · rw [if_pos e, if_pos e]
      obtain ⟨J2, k1, k2, k3, k4, k5⟩ := M_wrongOf_s (ρ := ρ) (d := d) (c := c) (R := R) (L := L) hx hvn (P.2.2.2.1 v).length 0 _ J (by omega) (by rw [f.2.2.2, ht]; have := (h.1.2.2.2.2.2.1 v hvn).1; simpa using this) g2 f.2.1
      rw [List.drop_zero] at k1 k2 k5
      rw [k1]
      exact ⟨J2, rfl, k2, hF1.tr (g3.tr k3), (k4.trans g4).trans e31, k5⟩
    · rw [if_neg e, if_neg e]
      exact ⟨J, rfl, g2, hF1.tr g3, g4.trans e31, g5⟩
  cases ep : P.2.1 x with
  | none =>
    have hp : pNo P T x = none := by unfold pNo; rw [ep]
    have := rest hp
    unfold tWrong at this
    rw [ep] at this
    rw [if_pos (by decide)]
    exact this
  | some y =>
    have hy := h.1.2.2.2.1 x hx y ep
    have e274 : z2 I 257 30 (eO (some y)) 274 y = nI (T.1.1.1.1 y) := by rw [z2_ne (by decide)]; exact (h.2.2.1 y (by omega)).1
    have hst := hv.1 y
    rw [eO_s, if_neg (nI_pos (by omega)), nI_add, Nat.zero_add, zidx_n (by omega) (by decide)]
    rw [eO_s] at e274
    rw [e274]
    by_cases e3 : T.1.1.1.1 y = 3
    · have hp : pNo P T x = none := by unfold pNo; rw [ep]; dsimp only; rw [if_pos e3]
      have := rest hp
      unfold tWrong at this
      rw [ep] at this
      rw [if_pos (by rw [e3])]
      exact this
    · have hp : pNo P T x = some y := by unfold pNo; rw [ep]; dsimp only; rw [if_neg e3]
      rw [if_neg (by rw [nI_eq (by omega) (by decide)]; exact e3), hp]
      rw [ep] at h1 hF1 e31 e30
      exact ⟨_, rfl, h1, hF1, e31, fun _ => e30⟩
end MWRONG2
