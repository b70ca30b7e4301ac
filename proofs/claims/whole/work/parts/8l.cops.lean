-- THE COMPONENT'S BENCH: install, withdraw, take away
theorem und_no {P : PT} (hV : PV P) {x : Nat} : ∀ (n y : Nat), y < P.1.1 → y < x → und P x n y = false
  | 0, y, _, h => by unfold und; exact decide_eq_false (by omega)
  | n + 1, y, hy, h => by
    unfold und
    rw [decide_eq_false (by omega), Bool.false_or]
    cases e : P.2.1 y with
    | none => rfl
    | some k =>
      have := hV.2.2.2.1 y hy k e
      exact und_no hV n k (by omega) (by omega)
theorem tRem_skip {P : PT} (hV : PV P) {x : Nat} : ∀ (l : List Nat) (W : (TT × List Nat) × Nat), (∀ y ∈ l, y < P.1.1 ∧ y < x) → tRem P x l W = W
  | [], _, _ => rfl
  | y :: l, W, h => by
    unfold tRem
    have := h y List.mem_cons_self
    rw [if_neg (fun z => by rw [und_no hV 12 y this.1 this.2] at z; cases z.2)]
    exact tRem_skip hV l W (fun z hz => h z (List.mem_cons_of_mem _ hz))
section COPS
variable {ρ : Nat × (Nat → Int32)} {d : Nat} {c : Nat × Nat} {R : Nat → Nat → Option Nat} {I J : Nat → Nat → Int32} {L : Nat → Nat → Int64} {P : PT} {b p : Nat} {T : TT}
theorem Ben_begin_e (h : CI P b p T R I) : ∃ J, EV ρ (d + 2) 159 0 [.ref b] [] (mk c R I L) = some ([], mk c R J L) ∧ CI P b p T R J ∧ RowIs J (b + 16) [] ∧ FZ [5, 12, 13] b I J ∧ J b 17 = I b 17 ∧ J b 18 = nI 0 := by
  have h' := h
  obtain ⟨⟨hb, hV, hR, hC, hT⟩, hI, hH⟩ := h
  have hge := xb_ge hb
  rw [bBen_begin_0, zob (xb_o hb), bBen_begin_5, zob (xb_o hb), xb_F14 hb, zrs, zob (xb_r16 hb).1, Row_clear_e (xb_r16 hb), zcv, bBen_begin_12]
  have hZ : FZ [5, 12, 13] b I (z2 (z2 I b 18 (nI 0)) (b + 16) 1 (nI 0)) := (FZ.rf.z0 (by decide)).zk (by decide) (by decide)
  have hb16 := xb_104 hb 16 (by omega)
  have hb0 := xb_104 hb 0 (by omega)
  have hA : CR b T (z2 (z2 I b 18 (nI 0)) (b + 16) 1 (nI 0)) := CR_to hT (fun k hk => by rw [z2_ne (by rintro e; simp only [List.mem_cons, List.not_mem_nil, or_false] at hk; omega), z2_ne (by rintro e; simp only [List.mem_cons, List.not_mem_nil, or_false] at hk; omega)]) (by rw [z2_ne (by omega), z2a, if_neg (by omega)]) (by rw [z2_ne (by omega), z2a, if_neg (by omega)]) (by rw [z2_ne (by omega), z2a, if_neg (by omega)]) (fun e => ⟨by rw [z2_ne (by omega), z2_ne (by omega)], by rw [z2_ne (by omega), z2_ne (by omega)]⟩) (by rw [z2_ne (by omega), z2_ne (by omega)])
  exact ⟨_, rfl, CI_to h' hA hZ.1 hI (fun _ z => z) (fun _ _ => rfl) (hZ.2 5 (by decide)), ⟨z2_at _ _ _ _, by decide, fun i v hi => by cases hi⟩, hZ, by rw [z2_ne (by omega), z2a, if_neg (by omega)], by rw [z2_ne (by omega), z2_at]⟩
theorem Ben_install_l {v : Nat} (hvn : v < P.1.2.1) : ∀ (n k : Nat) (T : TT) (I : Nat → Nat → Int32), k + n = P.1.1 → CI P b p T R I → ∃ J, EV ρ (d + 6) 161 14 [.ref b, .int (nI v), .int (nI k)] [] (mk c R I L) = some ([], mk c R J L) ∧ CI P b p (tTries P (fun x => (P.2.2.2.2.1 v x).isSome) ((List.range P.1.1).drop k) T) R J ∧ FZ [12, 13, 16, 17] b I J ∧ J b 17 = I b 17 ∧ KN b I J T (tTries P (fun x => (P.2.2.2.2.1 v x).isSome) ((List.range P.1.1).drop k) T) := by
  intro n
  induction n with
  | zero =>
    intro k T I hk h
    have h12 := h.1.2.1.1
    have hb := h.1.1
    have hC := h.1.2.2.2.1
    rw [rg_nil (by omega), bBen_install_14, zob (xb_o hb), h.1.2.2.1, zrs, zob (xp_o hC.1), hC.2.1, if_pos (nI_le (by omega) (by omega))]
    exact ⟨I, rfl, h, FZ.rf, rfl, KN.rf⟩
  | succ n ih =>
    intro k T I hk h
    have h' := h
    obtain ⟨⟨hb, hV, hR, hC, hT⟩, hI, hH⟩ := h
    have h12 := hV.1
    have h8 := hV.2.1
    have hp := hC.1
    have hkd : k < P.1.1 := by omega
    have no : (opn T k && (P.2.2.2.2.1 v k).isSome) = false → ∃ J, EV ρ (d + 6) 161 57 [.ref b, .int (nI v), .int (nI k)] [] (mk c R I L) = some ([], mk c R J L) ∧ CI P b p (tTries P (fun x => (P.2.2.2.2.1 v x).isSome) (k :: (List.range P.1.1).drop (k + 1)) T) R J ∧ FZ [12, 13, 16, 17] b I J ∧ J b 17 = I b 17 ∧ KN b I J T (tTries P (fun x => (P.2.2.2.2.1 v x).isSome) (k :: (List.range P.1.1).drop (k + 1)) T) := fun hn => by
      rw [bBen_install_57, nI_add]
      unfold tTries
      rw [hn, if_neg (by decide)]
      exact ih (k + 1) T I (by omega) h'
    rw [rg_cons hkd, bBen_install_14, zob (xb_o hb), hR, zrs, zob (xp_o hp), hC.2.1, if_neg (nI_ge hkd (by omega)), zob (xb_o hb), xb_F2 hb, zrs, zar (xb_a1 hb), zidx_n (by omega) (by decide), (hT.1 k (by omega)).1, B_wait_e (hI.1.1.1 k), zci, bBen_install_34]
    show ∃ J, (if bo (opn T k) = 0 then _ else _) = _ ∧ _
    cases eo : opn T k with
    | false =>
      rw [if_pos (by decide)]
      exact no (by rw [eo]; rfl)
    | true =>
      rw [if_neg (by decide), zob (xb_o hb), hR, zrs, zob (xp_o hp), xp_F17 hp, zrs, zar (xp_a15 hp), zidx_n (by omega) (by decide), (xp_s hp (by omega)).1, zrs, zar (xp_s hp (by omega)).2, zidx_n (by omega) (by decide), (hC.2.2.2.2.2 v hvn).2.2.2.2 k hkd]
      cases es : P.2.2.2.2.1 v k with
      | none =>
        rw [show eO (none : Option Nat) = -1 from rfl, if_pos rfl]
        exact no (by rw [es]; simp)
      | some a =>
        have ha := hV.2.2.2.2.2.2.1 v k a es
        obtain ⟨K, g1, g2, g3, g4, g5⟩ := Ben_attempt_e (ρ := ρ) (d := d) (c := c) (L := L) h' hkd (opn_3 eo)
        rw [eO_s, if_neg (nI_m1 (by omega)), zob (xb_o hb), g1, zcv, bBen_install_57, nI_add]
        unfold tTries
        rw [show (opn T k && (P.2.2.2.2.1 v k).isSome) = true from by rw [eo, es]; rfl, if_pos rfl]
        obtain ⟨J, j1, j2, j3, j4, j5⟩ := ih (k + 1) _ K (by omega) g2
        exact ⟨J, j1, j2, g3.tr j3, j4.trans g4, g5.tr j5⟩
theorem CI_ld (h : CI P b p T R I) (w : Int32) : CI P b p (u_ld T w) R (z2 I b 16 w) ∧ FZ [5, 12, 13, 14, 15, 16, 17] b I (z2 I b 16 w) := by
  have hZ : FZ [5, 12, 13, 14, 15, 16, 17] b I (z2 I b 16 w) := FZ.rf.z0 (by decide)
  exact ⟨CI_to h (CR_ld w h.1.1 h.1.2.2.2.2) hZ.1 (IV_ld h.2.1) (fun _ z => z) (fun _ _ => rfl) (hZ.2 5 (by decide)), hZ⟩
theorem Ben_install_e (h : CI P b p T R I) {v : Nat} (hvn : v < P.1.2.1) : ∃ J, EV ρ (d + 6) 161 0 [.ref b, .int (nI v), zU] [] (mk c R I L) = some ([], mk c R J L) ∧ CI P b p (tTries P (fun x => (P.2.2.2.2.1 v x).isSome) (List.range P.1.1) (u_ld T (T.2.2.1.2 ||| (nI 1 <<< (nI v &&& 31))))) R J ∧ FZ [12, 13, 16, 17] b I J ∧ J b 17 = I b 17 ∧ KN b I J T (tTries P (fun x => (P.2.2.2.2.1 v x).isSome) (List.range P.1.1) (u_ld T (T.2.2.1.2 ||| (nI 1 <<< (nI v &&& 31))))) := by
  obtain ⟨g1, g2⟩ := CI_ld h (T.2.2.1.2 ||| (nI 1 <<< (nI v &&& 31)))
  have hb := h.1.1
  obtain ⟨J, j1, j2, j3, j4, j5⟩ := Ben_install_l (ρ := ρ) (d := d) (c := c) (L := L) hvn P.1.1 0 _ _ (by omega) g1
  rw [bBen_install_0, zob (xb_o hb), zob (xb_o hb), h.1.2.2.2.2.2.2.1.2.2.2, bBen_install_12, j1]
  refine ⟨J, rfl, j2, (g2.mo (by decide)).tr j3, by rw [j4, z2a, if_neg (by omega)], j5.1, ?_⟩
  rw [j5.2, z2a, if_neg (by omega)]
  rfl
theorem Ben_latB_e (h : CX P b p T R I) (hI : IV P T) {v : Nat} (hvn : v < 2 ^ 31) : EV ρ (d + 1) 177 0 [.ref b, .int (nI v), zU] [] (mk c R I L) = some ([.int (eO (latB T v))], mk c R I L) := by
  obtain ⟨hb, hV, hR, hC, hT⟩ := h
  have h12 := hV.1
  have h8 := hV.2.1
  have hv := hI.1.1
  obtain ⟨rw1, rw2, rw3, rw4⟩ := xb_r14 hb
  have hr := hT.2.2.2.2.1
  have hl12 := hr.2.1
  have loop : ∀ k, k ≤ T.1.2.2.1.length → EV ρ (d + 1) 177 10 [.ref b, .int (nI v), .int (nI k - nI 1)] [] (mk c R I L) = some ([.int (eO ((T.1.2.2.1.take k).reverse.find? (fun x => decide (T.1.1.1.2 x = v))))], mk c R I L) := by
    intro k
    induction k with
    | zero =>
      intro _
      rw [bBen_latestBoundTo_10, if_pos (by decide)]
      rfl
    | succ k ih =>
      intro hk
      have hkl : k < T.1.2.2.1.length := by omega
      have hy := (hv.2.2.1.2 _).mp (List.getElem_mem hkl)
      have hgv := hr.2.2 k _ (List.getElem?_eq_getElem hkl)
      have et : T.1.2.2.1.take (k + 1) = T.1.2.2.1.take k ++ [T.1.2.2.1[k]] := by rw [List.take_succ, List.getElem?_eq_getElem hkl]; rfl
      rw [et, List.reverse_append, List.reverse_singleton, List.singleton_append, List.find?_cons]
      generalize T.1.2.2.1[k] = y at hy hgv
      have hby := (hI.1.2.2 y hy.2).1
      rw [bBen_latestBoundTo_10, pk_sub (by omega), show k + 1 - 1 = k from rfl, if_neg (nI_pos (by omega)), zob (xb_o hb), zob (xb_o hb), xb_F13 hb, zrs, zob rw1, rw2, zrs, zar rw3, zidx_n (by omega) (by decide), xb_F3 hb, zrs, hgv, zar (xb_a2 hb), zidx_n (by omega) (by decide), (hT.1 y (by omega)).2 hy.2]
      by_cases e1 : T.1.1.1.2 y = v
      · rw [if_pos (by rw [e1]), decide_eq_true e1, zob (xb_o hb), zrs, zob rw1, rw2, zrs, zar rw3, zidx_n (by omega) (by decide), hgv]
        rfl
      · rw [if_neg (by rw [nI_eq (by omega) hvn]; exact e1), decide_eq_false e1, i1_m]
        exact ih (by omega)
  have := loop T.1.2.2.1.length (Nat.le_refl _)
  rw [List.take_length] at this
  rw [bBen_latestBoundTo_0, zob (xb_o hb), xb_F13 hb, zrs, zob rw1, hr.1]
  exact this
theorem Ben_wd_l {v : Nat} (hvn : v < P.1.2.1) : ∀ (n j : Nat) (W : TT × List Nat) (I : Nat → Nat → Int32), j + n = 12 → CI P b p W.1 R I → RowIs I (b + 16) W.2 → W.2.length + W.1.1.2.2.1.length ≤ 12 → ∃ J, EV ρ (d + 18) 176 22 [.ref b, .int (nI v), .int (eO (latB W.1 v)), .int (nI j)] [] (mk c R I L) = some ([], mk c R J L) ∧ CI P b p (tWd P v n W).1 R J ∧ RowIs J (b + 16) (tWd P v n W).2 ∧ FZ [5, 12, 13] b I J ∧ J b 18 = I b 18 := by
  intro n
  induction n with
  | zero =>
    intro j W I hj h hG hl
    rw [bBen_withdraw_22, if_pos (nI_le (by omega) (by omega))]
    exact ⟨I, rfl, h, hG, FZ.rf, rfl⟩
  | succ n ih =>
    intro j W I hj h hG hl
    have hb := h.1.1
    have hV := h.1.2.1
    have h12 := hV.1
    have h8 := hV.2.1
    rw [bBen_withdraw_22, if_neg (nI_ge (by omega) (by decide))]
    unfold tWd
    cases e : latB W.1 v with
    | none =>
      rw [show eO (none : Option Nat) = -1 from rfl, if_pos rfl]
      exact ⟨I, rfl, h, hG, FZ.rf, rfl⟩
    | some x =>
      have hx := (h.2.1.1.1.2.2.1.2 x).mp (latB_s e).1
      obtain ⟨A, B, hbd, hn⟩ := bnd_at hV h.2.1.1.1 hx.1 hx.2
      obtain ⟨k0, k1, k2, ⟨B', k3, k4, G, k5, k6, k7⟩, k8, k9, k10, k11, k12, k13, k14⟩ := tLet_v hV h.2.1 hbd hn
      obtain ⟨K, g1, g2, g3, g4, g5⟩ := Ben_letGo_e (ρ := ρ) (d := d) (c := c) (L := L) (T := W.1) (g := W.2) h hx.1 hx.2 hG hl
      obtain ⟨M, m1, m2, m3, m4⟩ := Ben_idle_i (ρ := ρ) (d := d + 15) (c := c) (L := L) g2 hx.1 (by rw [k13]; decide)
      rw [eO_s, if_neg (nI_m1 (by omega)), zob (xb_o hb), g1, zcv, bBen_withdraw_39, zob (xb_o hb), m1, zcv, bBen_withdraw_44, zob (xb_o hb), Ben_latB_e m2.1 m2.2.1 (by omega), zci, bBen_withdraw_49, nI_add]
      obtain ⟨J, j1, j2, j3, j4, j5⟩ := ih (j + 1) (tIdle (tLet P 13 W x).1 x, (tLet P 13 W x).2) M (by omega) m2 (RowIs_to g3 (m3.2 16 (by decide)) (m3.2 17 (by decide))) (by
        show (tLet P 13 W x).2.length + (tLet P 13 W x).1.1.2.2.1.length ≤ 12
        rw [k4, k5]
        rw [hbd] at hl
        simp only [List.length_append, List.length_cons] at hl ⊢
        omega)
      exact ⟨J, j1, j2, j3, g4.tr ((m3.mo (by decide)).tr j4), by rw [j5, m4, g5]⟩
theorem Ben_withdraw_e (h : CI P b p T R I) (hG : RowIs I (b + 16) []) {v : Nat} (hvn : v < P.1.2.1) : ∃ J, EV ρ (d + 18) 176 0 [.ref b, .int (nI v), zU, zU] [] (mk c R I L) = some ([], mk c R J L) ∧ CI P b p (tUnl P T v).1 R J ∧ RowIs J (b + 16) (tUnl P T v).2 ∧ FZ [5, 12, 13] b I J ∧ J b 18 = I b 18 := by
  have hb := h.1.1
  have h8 := h.1.2.1.2.1
  obtain ⟨g1, g2⟩ := CI_ld h (T.2.2.1.2 &&& ((nI 1 <<< (nI v &&& 31)) ^^^ (-1)))
  obtain ⟨J, j1, j2, j3, j4, j5⟩ := Ben_wd_l (ρ := ρ) (d := d) (c := c) (L := L) hvn 12 0 (u_ld T (T.2.2.1.2 &&& ((nI 1 <<< (nI v &&& 31)) ^^^ (-1))), []) _ (by omega) g1 (RowIs_to hG (g2.2 16 (by decide)) (g2.2 17 (by decide))) (by
    have := bnd_12 h.1.2.1 h.2.1.1.1
    show 0 + T.1.2.2.1.length ≤ 12
    omega)
  rw [bBen_withdraw_0, zob (xb_o hb), zob (xb_o hb), h.1.2.2.2.2.2.2.1.2.2.2, bBen_withdraw_14, zob (xb_o hb), Ben_latB_e g1.1 g1.2.1 (by omega), zci, bBen_withdraw_19, j1]
  exact ⟨J, rfl, j2, j3, (g2.mo (by decide)).tr j4, by rw [j5, z2a, if_neg (by omega)]⟩
end COPS
