-- LETTING GO in the reference
theorem lat_of {f : Nat → Nat} {p : Nat → Bool} {l : List Nat} (hp : l.Pairwise (fun a b => f a < f b)) {o : Option Nat} (h1 : ∀ v, o = some v → v ∈ l ∧ p v = true) (h2 : ∀ v, v ∈ l → p v = true → ∃ w, o = some w ∧ (v = w ∨ f v < f w)) : o = l.reverse.find? p := by
  cases e : l.reverse.find? p with
  | none =>
    cases o with
    | none => rfl
    | some v =>
      obtain ⟨g1, g2⟩ := h1 v rfl
      have := List.find?_eq_none.mp e v (List.mem_reverse.mpr g1)
      exact absurd g2 this
  | some u =>
    obtain ⟨hu, as, bs, hl, hn⟩ := List.find?_eq_some_iff_append.mp e
    have hl2 : l = bs.reverse ++ u :: as.reverse := by
      have := congrArg List.reverse hl
      rw [List.reverse_reverse] at this
      rw [this]
      simp
    have hum : u ∈ l := by rw [hl2]; simp
    obtain ⟨w, rfl, hw⟩ := h2 u hum hu
    rcases hw with hw | hw
    · rw [hw]
    · exfalso
      obtain ⟨g1, g2⟩ := h1 w rfl
      rw [hl2] at g1 hp
      rcases List.mem_append.mp g1 with g | g
      · rw [List.pairwise_append] at hp
        have := hp.2.2 w g u List.mem_cons_self
        omega
      · rcases List.mem_cons.mp g with g | g
        · rw [g] at hw; omega
        · have := hn w (List.mem_reverse.mp g)
          rw [g2] at this
          cases this
section MLET
variable {ρ : Nat × (Nat → Int32)} {d : Nat} {c : Nat × Nat} {R : Nat → Nat → Option Nat} {I : Nat → Nat → Int32} {L : Nat → Nat → Int64} {P : PT} {sd : Nat} {T : TT}
theorem M_latest_l (h : MX P sd T I) (hT : TV P T) {S : Int32} (hS : ∀ j, bt S j = true → j ∈ T.1.2.2.1) {f : Nat → Nat} (hf : ∀ x ∈ T.1.2.2.1, I 274 (60 + x) = nI (f x) ∧ f x < 2 ^ 31) : ∀ (n k : Nat) (o : Option Nat), k + n = P.1.1 → (∀ v, o = some v → v < k ∧ bt S v = true) → (∀ v, v < k → bt S v = true → ∃ w, o = some w ∧ (v = w ∨ f v < f w ∨ (f v = f w ∧ w < v))) → ∃ o', EV ρ (d + 2) 63 4 [.ref 257, .int S, .int (eO o), .int (nI k)] [] (mk c R I L) = some ([.int (eO o')], mk c R I L) ∧ (∀ v, o' = some v → v < P.1.1 ∧ bt S v = true) ∧ (∀ v, v < P.1.1 → bt S v = true → ∃ w, o' = some w ∧ (v = w ∨ f v < f w ∨ (f v = f w ∧ w < v))) := by
  have h12 := h.1.1
  intro n
  induction n with
  | zero =>
    intro k o hk h1 h2
    obtain rfl : k = P.1.1 := by omega
    exact ⟨o, by rw [bM_latest_4, M_devices_e h.2.1, zci, bM_latest_9, if_pos (nI_le (by omega) (by omega))], h1, h2⟩
  | succ n ih =>
    intro k o hk h1 h2
    rw [bM_latest_4, M_devices_e h.2.1, zci, bM_latest_9, if_neg (nI_ge (by omega) (by omega)), M_has_e _ (by omega), zci, bM_latest_17, nI_add k 1]
    cases e : bt S k with
    | false =>
      rw [if_pos (by decide)]
      refine ih (k + 1) o (by omega) (fun v hv => ⟨by have := (h1 v hv).1; omega, (h1 v hv).2⟩) (fun v hv hb => ?_)
      by_cases e2 : v = k
      · rw [e2, e] at hb; cases hb
      · exact h2 v (by omega) hb
    | true =>
      rw [if_neg (by decide)]
      obtain ⟨s1, s2⟩ := hf k (hS k e)
      cases o with
      | none =>
        rw [if_pos (by decide)]
        refine ih (k + 1) (some k) (by omega) (fun v hv => by cases hv; exact ⟨by omega, e⟩) (fun v hv hb => ?_)
        by_cases e2 : v = k
        · exact ⟨k, rfl, Or.inl e2⟩
        · obtain ⟨w, hw, -⟩ := h2 v (by omega) hb
          cases hw
      | some w =>
        obtain ⟨w1, w2⟩ := h1 w rfl
        obtain ⟨t1, t2⟩ := hf w (hS w w2)
        rw [eO_s, if_neg (nI_pos (by omega)), nI_add, nI_add, zidx_n (by omega) (by decide), zidx_n (by omega) (by decide), s1, t1]
        by_cases e3 : f k ≤ f w
        · rw [if_pos (nI_le e3 t2)]
          refine ih (k + 1) (some w) (by omega) (fun v hv => by cases hv; exact ⟨by omega, w2⟩) (fun v hv hb => ?_)
          by_cases e2 : v = k
          · subst e2
            exact ⟨w, rfl, by omega⟩
          · exact h2 v (by omega) hb
        · rw [if_neg (nI_ge (by omega) s2)]
          refine ih (k + 1) (some k) (by omega) (fun v hv => by cases hv; exact ⟨by omega, e⟩) (fun v hv hb => ?_)
          by_cases e2 : v = k
          · exact ⟨k, rfl, Or.inl e2⟩
          · obtain ⟨w', hw', hw2⟩ := h2 v (by omega) hb
            cases hw'
            refine ⟨k, rfl, Or.inr (Or.inl ?_)⟩
            rcases hw2 with rfl | hw2 | hw2
            · omega
            · omega
            · omega
theorem M_latest_e (h : MX P sd T I) (hT : TV P T) (hc : T.2.2.2.2 < 2 ^ 31) {S : Int32} (hS : ∀ j, bt S j = true → j ∈ T.1.2.2.1) : EV ρ (d + 2) 63 0 [.ref 257, .int S, zU, zU] [] (mk c R I L) = some ([.int (eO (T.1.2.2.1.reverse.find? (fun o => bt S o)))], mk c R I L) := by
  obtain ⟨-, f, h1, h2⟩ := h.2.2.2.2.2.2.2.1
  rw [bM_latest_0]
  obtain ⟨o, k1, k2, k3⟩ := M_latest_l (ρ := ρ) (d := d) (c := c) (R := R) (L := L) h hT hS (f := f) (fun x hx => ⟨(h1 x hx).1, by have := (h1 x hx).2; omega⟩) P.1.1 0 none (by omega) (fun v hv => by cases hv) (fun v hv => by omega)
  rw [eO_n] at k1
  rw [k1]
  have hinj : ∀ v w, v ∈ T.1.2.2.1 → w ∈ T.1.2.2.1 → f v = f w → v = w := fun v w hv hw e => by
    obtain ⟨i, hi, rfl⟩ := List.getElem_of_mem hv
    obtain ⟨j, hj, rfl⟩ := List.getElem_of_mem hw
    have hp := List.pairwise_iff_getElem.mp h2
    rcases Nat.lt_trichotomy i j with g | g | g
    · have := hp i j hi hj g; omega
    · subst g; rfl
    · have := hp j i hj hi g; omega
  rw [lat_of (p := fun o => bt S o) h2 (fun v hv => ⟨hS v (k2 v hv).2, (k2 v hv).2⟩) (fun v hv hb => ?_)]
  obtain ⟨w, hw, hw2⟩ := k3 v ((hT.2.2.1.2 v).mp hv).1 hb
  refine ⟨w, hw, ?_⟩
  rcases hw2 with hw2 | hw2 | hw2
  · exact Or.inl hw2
  · exact Or.inr hw2
  · exact Or.inl (hinj v w hv (hS w (k2 w hw).2) hw2.1)
theorem M_hanging_l (h : MX P sd T I) (hT : TV P T) {x : Nat} (hx : x < P.1.1) : ∀ (n k : Nat) (S : Int32), k + n = P.1.1 → (∀ j, bt S j = true ↔ j < k ∧ T.1.1.1.1 j = 3 ∧ hg P T x j = true) → ∃ S', EV ρ (d + 3) 64 4 [.ref 257, .int (nI x), .int S, .int (nI k)] [] (mk c R I L) = some ([.int S'], mk c R I L) ∧ ∀ j, bt S' j = true ↔ j < P.1.1 ∧ T.1.1.1.1 j = 3 ∧ hg P T x j = true := by
  have h12 := h.1.1
  intro n
  induction n with
  | zero =>
    intro k S hk hS
    obtain rfl : k = P.1.1 := by omega
    exact ⟨S, by rw [bM_hanging_4, M_devices_e h.2.1, zci, bM_hanging_9, if_pos (nI_le (by omega) (by omega))], hS⟩
  | succ n ih =>
    intro k S hk hS
    have hs := hT.1 k
    have skip : ¬ (T.1.1.1.1 k = 3 ∧ hg P T x k = true) → ∀ j, bt S j = true ↔ j < k + 1 ∧ T.1.1.1.1 j = 3 ∧ hg P T x j = true := fun hn j => by
      rw [hS j]
      constructor
      · exact fun z => ⟨by omega, z.2⟩
      · rintro ⟨z1, z2⟩
        refine ⟨?_, z2⟩
        by_cases e : j = k
        · subst e; exact absurd z2 hn
        · omega
    have add : T.1.1.1.1 k = 3 ∧ hg P T x k = true → ∀ j, bt (S ||| (nI 1 <<< (nI k &&& 31))) j = true ↔ j < k + 1 ∧ T.1.1.1.1 j = 3 ∧ hg P T x j = true := fun hy j => by
      rw [b_or, Bool.or_eq_true, hS j, b_bit (by omega), decide_eq_true_eq]
      constructor
      · rintro (z | z)
        · exact ⟨by omega, z.2⟩
        · rw [z]; exact ⟨by omega, hy⟩
      · rintro ⟨z1, z2⟩
        by_cases e : j = k
        · exact Or.inr e
        · exact Or.inl ⟨by omega, z2⟩
    rw [bM_hanging_4, M_devices_e h.2.1, zci, bM_hanging_9, if_neg (nI_ge (by omega) (by omega)), nI_add 0 k, Nat.zero_add, zidx_n (by omega) (by decide), (h.2.2.1 k (by omega)).1]
    by_cases e3 : T.1.1.1.1 k = 3
    · rw [if_pos (by rw [e3]), M_parentOf_e h.2.1 h.1 (by omega), zci, bM_hanging_29, nI_add k 1]
      by_cases ep : P.2.1 k = some x
      · rw [if_pos ((eO_i (pa_lt h.1 (by omega)) (by omega)).mpr ep)]
        exact ih (k + 1) _ (by omega) (add ⟨e3, by unfold hg; simp [ep]⟩)
      · rw [if_neg (fun z => ep ((eO_i (pa_lt h.1 (by omega)) (by omega)).mp z)), nI_add, zidx_n (by omega) (by decide), (h.2.2.2.1 k (by omega)).2.2.2.2, M_has_e _ (by omega), zci, bM_hanging_46, nI_add k 1]
        cases ec : bt (T.2.1.1.1 k) x with
        | false =>
          rw [if_pos (by decide)]
          exact ih (k + 1) S (by omega) (skip (fun z => by have := z.2; unfold hg at this; simp [ep, ec] at this))
        | true =>
          rw [if_neg (by decide)]
          exact ih (k + 1) _ (by omega) (add ⟨e3, by unfold hg; simp [ec]⟩)
    · rw [if_neg (by rw [nI_eq (by omega) (by decide)]; exact e3), nI_add k 1]
      exact ih (k + 1) S (by omega) (skip (fun z => e3 z.1))
theorem find_cg {p q : Nat → Bool} : ∀ {l : List Nat}, (∀ y ∈ l, p y = q y) → l.find? p = l.find? q
  | [], _ => rfl
  | a :: l, h => by
    rw [List.find?_cons, List.find?_cons, h a List.mem_cons_self, find_cg (fun y hy => h y (List.mem_cons_of_mem _ hy))]
/-- the latest of those that lean -/
theorem M_lean (h : MX P sd T I) (hT : TV P T) (hc : T.2.2.2.2 < 2 ^ 31) {x : Nat} (hx : x < P.1.1) : ∃ S, EV ρ (d + 3) 64 0 [.ref 257, .int (nI x), zU, zU] [] (mk c R I L) = some ([.int S], mk c R I L) ∧ EV ρ (d + 3) 63 0 [.ref 257, .int S, zU, zU] [] (mk c R I L) = some ([.int (eO (lean P T x))], mk c R I L) := by
  obtain ⟨S, h1, h2⟩ := M_hanging_l (ρ := ρ) (d := d) (c := c) (R := R) (L := L) h hT hx P.1.1 0 (nI 0) (by omega) (fun j => by
    have : bt (nI 0) j = false := b_0 j
    rw [this]
    constructor
    · exact fun z => by cases z
    · exact fun z => by omega)
  refine ⟨S, by rw [bM_hanging_0]; exact h1, ?_⟩
  rw [M_latest_e (d := d + 1) h hT hc (fun j hj => (hT.2.2.1.2 j).mpr ⟨((h2 j).mp hj).1, ((h2 j).mp hj).2.1⟩)]
  unfold lean
  rw [find_cg (q := hg P T x) (fun y hy => ?_)]
  have hy2 := (hT.2.2.1.2 y).mp (List.mem_reverse.mp hy)
  rw [Bool.eq_iff_iff, h2 y]
  exact ⟨fun z => z.2.2, fun z => ⟨hy2.1, hy2.2, z⟩⟩
/-- those gone, as the reference notes them -/
def GM (I : Nat → Nat → Int32) (g : List Nat) : Prop := I 257 33 = nI g.length ∧ g.length ≤ 12 ∧ ∀ i v, g[i]? = some v → I 277 i = nI v
theorem GM_FM {I J : Nat → Nat → Int32} {g : List Nat} (h : GM I g) (hf : FM I J) : GM J g := ⟨by rw [hf 257 33 (by omega)]; exact h.1, h.2.1, fun i v hi => by rw [hf 277 i (by omega)]; exact h.2.2 i v hi⟩
set_option maxHeartbeats 1000000 in
theorem M_gone (h : MX P sd T I) (hT : TV P T) {x : Nat} (hx : x < P.1.1) (h3 : T.1.1.1.1 x = 3) {g : List Nat} (hg : GM I g) (hl : g.length < 12) : ∃ J, zcV (EV ρ (d + 4) 47 0 [.ref 257, .int (nI x), zU, zU] [] (mk c R I L)) (fun s1 => EV ρ (d + 5) 65 37 [.ref 257, .int (nI x), zU] [] s1) = some ([], mk c R J L) ∧ MX P sd (tGone T x) J ∧ GM J (g ++ [x]) ∧ FX I J := by
  have hV := h.1
  have h12 := hV.1
  have hb := hT.bnd hV
  have hR := TV_release (x := x) hT
  obtain ⟨r1, r2, r3, r4, r5, r6, r7, r8, r9, r10, r11, r12⟩ := tRelease_f T x
  obtain ⟨s, q1, q2⟩ := M_releases_e (ρ := ρ) (d := d + 2) (c := c) (R := R) (L := L) (show x < 12 by omega) (hT.2.2.2.2.2.2.2.1 x) hb h.2.2
  have hby : s (12 + x) = nI (T.1.1.1.2 x) := by
    rw [(q2.1 x (by omega)).2, r2, r3, if_pos h3]
  rw [q1, zcv, bM_letsGo_37, nI_add, zidx_n (by omega) (by decide), va_s, hby]
  obtain ⟨s2, k1, k2⟩ := M_logs_e (ρ := ρ) (d := d + 3) (c := c) (R := R) (I := va_up I 274 s) (L := L) (by rw [va_s]; exact q2) (hR.bnd hV) (nI 4) (nI x) (nI (T.1.1.1.2 x))
  have e0 : ∀ (K : Nat → Nat → Int32) j w, z2 K 274 j w = va_up K 274 (va_up (K 274) j w) := fun _ _ _ => rfl
  have hsy := MR_sy (show x < 12 by omega) false k2 (hR.bnd hV)
  have hun := MR_unb (T := u_sy (tLog (tRelease T x) (nI 4) (nI x) (nI (T.1.1.1.2 x))) (va_up (tRelease T x).1.2.1.1 x false)) (show x < 12 by omega) (v := 2) (by decide) hsy
  rw [k1, zcv, bx_uu, bM_letsGo_52, nI_add, zidx_n (by omega) (by decide), e0, bx_uu, va_s, bM_letsGo_62, nI_add, zidx_n (by omega) (by decide), z2_u, bM_letsGo_72, va_257, hg.1, zidx_n hl (by decide), z2_c (by decide), bM_letsGo_82, va_257, z2_ne (by decide), hg.1, nI_add, z2_c (by decide), bM_letsGo_92]
  have ecm : va_up (va_up (va_up s2 (12 + x) (-1)) (48 + x) (nI 0)) x (nI 2) = va_up (va_up (va_up s2 (48 + x) (bo false)) (12 + x) (-1)) x (nI 2) := by
    congr 1
    funext m
    unfold va_up
    by_cases e1 : m = 12 + x
    · rw [if_neg (by omega), if_pos e1, if_pos e1]
    · rw [if_neg e1, if_neg e1]
      rfl
  have hun : MR (u_bnd (u_st (u_sy (tLog (tRelease T x) (nI 4) (nI x) (nI (T.1.1.1.2 x))) (va_up (tRelease T x).1.2.1.1 x false)) (va_up (tRelease T x).1.1.1.1 x 2)) ((tRelease T x).1.2.2.1.filter (· ≠ x))) (va_up (va_up (va_up s2 (48 + x) (bo false)) (12 + x) (-1)) x (nI 2)) := hun
  rw [r5, r2, r12] at hun
  obtain ⟨s3, p1, p2⟩ := M_defers_g (ρ := ρ) (d := d + 2) (c := c) (R := R) (I := va_up (z2 (z2 I 277 g.length (nI x)) 257 33 (nI (g.length + 1))) 274 (va_up (va_up s2 (12 + x) (-1)) (48 + x) (nI 0))) (L := L) (show x < 12 by omega) (U := u_bnd (u_st (u_sy (tLog (tRelease T x) (nI 4) (nI x) (nI (T.1.1.1.2 x))) (va_up T.1.2.1.1 x false)) (va_up T.1.1.1.1 x 2)) (T.1.2.2.1.filter (· ≠ x))) (by rw [va_s, ecm]; exact hun) (fun y hy => hb y (List.mem_filter.mp hy).1) (hR.row hV)
  rw [p1, zcv, bx_uu, bM_letsGo_97]
  have hFX : FX I (z2 (z2 I 277 g.length (nI x)) 257 33 (nI (g.length + 1))) := (FX.rf.z2 (by omega)).z2 (by omega)
  refine ⟨_, rfl, ⟨hV, (hFX.up _).PM h.2.1, by rw [va_s]; have p3 := p2; rw [show (u_bnd (u_st (u_sy (tLog (tRelease T x) (nI 4) (nI x) (nI (T.1.1.1.2 x))) (va_up T.1.2.1.1 x false)) (va_up T.1.1.1.1 x 2)) (T.1.2.2.1.filter (· ≠ x))).1.2.1.2 = T.1.2.1.2 from r4] at p3; exact p3⟩, ⟨?_, by simp; omega, fun i v hi => ?_⟩, hFX.up _⟩
  · rw [va_257, z2a, if_pos ⟨rfl, rfl⟩]; simp
  · rw [va_n (by decide), z2_ne (by decide), z2a]
    rcases Nat.lt_trichotomy i g.length with e | e | e
    · rw [if_neg (by omega)]
      rw [List.getElem?_append_left e] at hi
      exact hg.2.2 i v hi
    · subst e
      simp at hi
      simp [hi]
    · rw [List.getElem?_eq_none (by simp; omega)] at hi
      cases hi
theorem M_letsGo_l : ∀ (n e : Nat) (W : TT × List Nat) (I : Nat → Nat → Int32) (x : Nat) (A B : List Nat), n ≤ e → TI P W.1 → LI P W.1 → W.1.1.2.2.1 = A ++ x :: B → B.length < n → MX P sd W.1 I → GM I W.2 → W.2.length + W.1.1.2.2.1.length ≤ 12 → W.1.2.2.2.2 < 2 ^ 31 → ∃ J, EV ρ (e + 5) 65 0 [.ref 257, .int (nI x), zU] [] (mk c R I L) = some ([], mk c R J L) ∧ MX P sd (tLet P n W x).1 J ∧ GM J (tLet P n W x).2 ∧ FX I J
  | 0, _, _, _, _, _, B, _, _, _, _, h, _, _, _, _ => by omega
  | n + 1, e, W, I, x, A, B, hne, hT, hL, hb, hn, h, hg, hl, hc => by
    obtain ⟨e', rfl⟩ : ∃ e', e = e' + 1 := ⟨e - 1, by omega⟩
    have hV := h.1
    have h12 := hV.1
    have hx3 := (hT.1.2.2.1.2 x).mp (by rw [hb]; simp)
    have hx := hx3.1
    have loop : ∀ (m : Nat) (U : TT × List Nat) (I : Nat → Nat → Int32) (C : List Nat), TI P U.1 → LI P U.1 → U.1.1.2.2.1 = A ++ x :: C → C.length < n + 1 → C.length ≤ m → MX P sd U.1 I → GM I U.2 → U.2.length + U.1.1.2.2.1.length ≤ 12 → U.1.2.2.2.2 < 2 ^ 31 → ∃ J, EV ρ (e' + 1 + 5) 65 10 [.ref 257, .int (nI x), .int (eO (lean P U.1 x))] [] (mk c R I L) = EV ρ (e' + 1 + 5) 65 10 [.ref 257, .int (nI x), .int (-1)] [] (mk c R J L) ∧ MX P sd (lgLoop (tLet P n) (fun T => lean P T x) m U).1 J ∧ GM J (lgLoop (tLet P n) (fun T => lean P T x) m U).2 ∧ FX I J ∧ (∃ C', (lgLoop (tLet P n) (fun T => lean P T x) m U).1.1.2.2.1 = A ++ x :: C') ∧ TI P (lgLoop (tLet P n) (fun T => lean P T x) m U).1 ∧ (lgLoop (tLet P n) (fun T => lean P T x) m U).2.length + (lgLoop (tLet P n) (fun T => lean P T x) m U).1.1.2.2.1.length ≤ 12 := by
      intro m
      induction m with
      | zero =>
        intro U I C hU hLU hbU hC hm hM hG hl hc
        obtain rfl : C = [] := List.length_eq_zero_iff.mp (by omega)
        cases e : lean P U.1 x with
        | none => exact ⟨I, rfl, hM, hG, FX.rf, ⟨[], hbU⟩, hU, hl⟩
        | some o =>
          obtain ⟨B1, B2, e2⟩ := lean_b hV hU.1 hLU hbU e
          cases B1 <;> cases e2
      | succ m ih =>
        intro U I C hU hLU hbU hC hm hM hG hl hc
        unfold lgLoop
        cases e : lean P U.1 x with
        | none => exact ⟨I, rfl, hM, hG, FX.rf, ⟨C, hbU⟩, hU, hl⟩
        | some o =>
          dsimp only
          obtain ⟨B1, B2, e2⟩ := lean_b hV hU.1 hLU hbU e
          have e3 : U.1.1.2.2.1 = (A ++ x :: B1) ++ o :: B2 := by rw [hbU, e2]; simp
          have hlen : B1.length + B2.length + 1 = C.length := by rw [e2]; simp; omega
          have ho := ((hU.1.2.2.1.2 o).mp (lean_s e).1).1
          obtain ⟨k1, k2, ⟨B', k3, k4, G, k5, k6, k7⟩, k8, k9, k10, k11, k12, k13, k14⟩ := tLet_f hV n U o (A ++ x :: B1) B2 hU hLU e3 (by omega)
          obtain ⟨J, j1, j2, j3, j4⟩ := M_letsGo_l n e' U I o (A ++ x :: B1) B2 (by omega) hU hLU e3 (by omega) hM hG hl hc
          have hsl := k3.length_le
          have hcT : (tLet P n U o).1.2.2.2.2 < 2 ^ 31 := by rw [k8]; exact hc
          obtain ⟨S, s1, s2⟩ := M_lean (ρ := ρ) (d := e' + 2) (c := c) (R := R) (L := L) j2 k1.1 hcT hx
          rw [bM_letsGo_10, eO_s, if_neg (nI_pos (by omega)), j1, zcv, bM_letsGo_19, s1, zci, bM_letsGo_25, s2, zci, bM_letsGo_28]
          obtain ⟨J2, q1, q2, q3, q4, q5, q6, q7⟩ := ih (tLet P n U o) J (B1 ++ B') k1 k2 (by rw [k4]; simp) (by rw [List.length_append]; omega) (by rw [List.length_append]; omega) j2 j3 (by
            rw [k5, k4]
            rw [e3] at hl
            simp only [List.length_append, List.length_cons] at hl ⊢
            omega) hcT
          exact ⟨J2, q1, q2, q3, j4.tr q4, q5, q6, q7⟩
    have hbl : B.length ≤ 12 := by
      have h1 := nd_len hT.1.2.2.1.1 (hT.1.bnd hV)
      rw [hb] at h1
      simp at h1
      omega
    obtain ⟨S, s1, s2⟩ := M_lean (ρ := ρ) (d := e' + 2) (c := c) (R := R) (L := L) h hT.1 hc hx
    obtain ⟨J, q1, q2, q3, q4, ⟨C', q5⟩, q6, q7⟩ := loop 12 W I B hT hL hb hn hbl h hg hl hc
    rw [bM_letsGo_0, s1, zci, bM_letsGo_6, s2, zci, bM_letsGo_9, q1, bM_letsGo_10, if_pos (by decide)]
    have hx4 := (q6.1.2.2.1.2 x).mp (by rw [q5]; simp)
    obtain ⟨J2, p1, p2, p3, p4⟩ := M_gone (ρ := ρ) (d := e' + 1) (c := c) (R := R) (L := L) q2 q6.1 hx hx4.2 q3 (by
      rw [q5] at q7
      simp at q7
      omega)
    rw [p1]
    exact ⟨J2, rfl, p2, p3, q4.tr p4⟩
end MLET
