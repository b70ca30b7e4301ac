-- THE COMPONENT'S BENCH: questions, more
section CASK2
variable {ρ : Nat × (Nat → Int32)} {d : Nat} {c : Nat × Nat} {R : Nat → Nat → Option Nat} {I J : Nat → Nat → Int32} {L : Nat → Nat → Int64} {P : PT} {b p : Nat} {T : TT}
/-- o would give what x lacks -/
def wgv (P : PT) (T : TT) (x o : Nat) : Bool := decide (o ≠ x) && (opn T o && (match (lnL P T o)[0]? with
    | none => false
    | some v => decide (¬ bitsL (ofk 3 (P.2.2.2.1 v)) &&& lks P T x = 0)))
theorem Ben_waits_l (h : CX P b p T R I) (hv : TV P T) {x : Nat} (hx : x < P.1.1) (q : Nat → Bool) (hq : ∀ j, q j = true → j < P.1.1) : ∀ (n k : Nat) (S : Int32), k + n = P.1.1 → (∀ j, j < 32 → bt S j = ((decide (j < k) && wgv P T x j) || q j)) → EV ρ (d + 4) 188 63 [.ref b, .int (nI x), zU, .int S, .int (lks P T x), .int (nI k), zU] [] (mk c R I L) = some ([.int (bR P.1.1 (fun o => wgv P T x o || q o))], mk c R I L) := by
  have h' := h
  obtain ⟨hb, hV, hR, hC, hT⟩ := h
  have h12 := hV.1
  have h8 := hV.2.1
  have hp := hC.1
  intro n
  induction n with
  | zero =>
    intro k S hk hS
    rw [bBen_waitsFor_63, zob (xb_o hb), hR, zrs, zob (xp_o hp), hC.2.1, if_pos (nI_le (by omega) (by omega))]
    congr 3
    congr 1
    refine b_ext (fun j hj => ?_)
    rw [hS j hj, bt_R (by omega), show k = P.1.1 from by omega]
    cases e : q j with
    | false => simp
    | true => simp [hq j e]
  | succ n ih =>
    intro k S hk hS
    have hkd : k < P.1.1 := by omega
    have no : wgv P T x k = false → EV ρ (d + 4) 188 63 [.ref b, .int (nI x), zU, .int S, .int (lks P T x), .int (nI k + nI 1), zU] [] (mk c R I L) = some ([.int (bR P.1.1 (fun o => wgv P T x o || q o))], mk c R I L) := fun hn => by
      rw [nI_add]
      refine ih (k + 1) S (by omega) (fun j hj => ?_)
      rw [hS j hj]
      by_cases e : j = k
      · rw [e, hn]; simp
      · have : decide (j < k) = decide (j < k + 1) := by
          by_cases e2 : j < k
          · rw [decide_eq_true e2, decide_eq_true (by omega)]
          · rw [decide_eq_false e2, decide_eq_false (by omega)]
        rw [this]
    rw [bBen_waitsFor_63, zob (xb_o hb), hR, zrs, zob (xp_o hp), hC.2.1, if_neg (nI_ge hkd (by omega))]
    by_cases ex : k = x
    · rw [if_pos (by rw [ex])]
      exact no (by unfold wgv; rw [decide_eq_false (fun z => z ex)]; rfl)
    · rw [if_neg (by rw [nI_eq (by omega) (by omega)]; exact ex), zob (xb_o hb), xb_F2 hb, zrs, zar (xb_a1 hb), zidx_n (by omega) (by decide), (hT.1 k (by omega)).1, B_wait_e (hv.1 k), zci, bBen_waitsFor_91]
      show (if bo (opn T k) = 0 then _ else _) = _
      cases eo : opn T k with
      | false =>
        rw [if_pos (by decide)]
        exact no (by unfold wgv; rw [eo]; simp)
      | true =>
        rw [if_neg (by decide), zob (xb_o hb), Ben_inLine_e h' hkd (by decide), zci, bBen_waitsFor_101]
        cases el : (lnL P T k)[0]? with
        | none =>
          rw [show eO (none : Option Nat) = -1 from rfl, if_pos rfl]
          exact no (by unfold wgv; rw [el]; simp)
        | some v =>
          have hvn : v < P.1.2.1 := lnL_lt hV hkd (List.mem_of_getElem? el)
          rw [eO_s, if_neg (nI_m1 (by omega)), zob (xb_o hb), hR, zrs, zob (xp_o hp), xp_F16 hp, zrs, zar (xp_a14 hp), zidx_n (by omega) (by decide), (hC.2.2.2.2.2 v hvn).2.2.2.1]
          by_cases ez : bitsL (ofk 3 (P.2.2.2.1 v)) &&& lks P T x = 0
          · rw [if_pos ez]
            exact no (by unfold wgv; rw [el]; simp [ez])
          · have hy : wgv P T x k = true := by unfold wgv; rw [el, eo]; simp [ez, ex]
            rw [if_neg ez, nI_add]
            refine ih (k + 1) _ (by omega) (fun j hj => ?_)
            rw [b_or, hS j hj, b_bit (by omega)]
            by_cases e : j = k
            · rw [e, hy]; simp
            · have : decide (j < k) = decide (j < k + 1) := by
                by_cases e2 : j < k
                · rw [decide_eq_true e2, decide_eq_true (by omega)]
                · rw [decide_eq_false e2, decide_eq_false (by omega)]
              rw [this, decide_eq_false e, Bool.or_false]
theorem Ben_waitsFor_e (h : CX P b p T R I) (hv : TV P T) {x : Nat} (hx : x < P.1.1) : EV ρ (d + 4) 188 0 [.ref b, .int (nI x), zU, zU, zU, zU, zU] [] (mk c R I L) = some ([.int (wts P T x)], mk c R I L) := by
  have h' := h
  obtain ⟨hb, hV, hR, hC, hT⟩ := h
  have h12 := hV.1
  have hp := hC.1
  have hpa : ∀ j, P.2.1 x = some j → j < P.1.1 := fun j hj => by have := hV.2.2.2.1 x hx j hj; omega
  rw [bBen_waitsFor_0, zob (xb_o hb), xb_F2 hb, zrs, zar (xb_a1 hb), zidx_n (by omega) (by decide), (hT.1 x (by omega)).1, B_wait_e (hv.1 x), zci, bBen_waitsFor_9]
  show (if bo (opn T x) = 0 then _ else _) = _
  have ew : wts P T x = if opn T x then bR P.1.1 (fun o => wgv P T x o || decide (P.2.1 x = some o ∧ T.1.1.1.1 o ≠ 3)) else nI 0 := rfl
  rw [ew]
  cases eo : opn T x with
  | false => rw [if_pos (by decide), if_neg (by decide)]
  | true =>
    have last : ∀ S, (∀ j, j < 32 → bt S j = decide (P.2.1 x = some j ∧ T.1.1.1.1 j ≠ 3)) → zcI (EV ρ (d + 3) 187 0 [.ref b, .int (nI x), zU, zU] [] (mk c R I L)) (fun x5 s4 => EV ρ (d + 4) 188 58 [.ref b, .int (nI x), zU, .int S, zU, zU, zU] [.int x5] s4) = some ([.int (bR P.1.1 (fun o => wgv P T x o || decide (P.2.1 x = some o ∧ T.1.1.1.1 o ≠ 3)))], mk c R I L) := fun S hS => by
      rw [Ben_lacks_e h' hv hx, zci, bBen_waitsFor_58]
      exact Ben_waits_l h' hv hx (fun o => decide (P.2.1 x = some o ∧ T.1.1.1.1 o ≠ 3)) (fun j hj => hpa j (of_decide_eq_true hj).1) P.1.1 0 S (by omega) (fun j hj => by rw [hS j hj]; simp)
    rw [if_neg (by decide), if_pos rfl, zob (xb_o hb), hR, zrs, zob (xp_o hp), xp_F6 hp, zrs, zar (xp_a4 hp), zidx_n (by omega) (by decide), (hC.2.2.2.2.1 x hx).1]
    cases ep : P.2.1 x with
    | none =>
      rw [show eO (none : Option Nat) = -1 from rfl, if_pos rfl, zob (xb_o hb)]
      rw [ep] at last
      exact last (nI 0) (fun j hj => by rw [show bt (nI 0) j = false from b_0 j]; simp)
    | some y =>
      have hy := hpa y ep
      have hsy := hv.1 y
      rw [ep] at last
      rw [eO_s, if_neg (nI_m1 (by omega)), zob (xb_o hb), xb_F2 hb, zrs, zar (xb_a1 hb), zidx_n (by omega) (by decide), (hT.1 y (by omega)).1]
      by_cases e3 : T.1.1.1.1 y = 3
      · rw [if_pos (by rw [e3]), zob (xb_o hb)]
        refine last (nI 0) (fun j hj => ?_)
        rw [show bt (nI 0) j = false from b_0 j]
        refine (decide_eq_false (fun z => ?_)).symm
        have := z.1
        cases this
        exact z.2 e3
      · rw [if_neg (by rw [nI_eq (by omega) (by decide)]; exact e3), zob (xb_o hb), zrs, zob (xp_o hp), xp_F7 hp, zrs, zar (xp_a5 hp), zidx_n (by omega) (by decide), (hC.2.2.2.2.1 x hx).2.1, zob (xb_o hb)]
        refine last _ (fun j hj => ?_)
        rw [ep, show bt (pbit (some y)) j = bt (nI 1 <<< (nI y &&& 31)) j from rfl, b_bit (by omega)]
        by_cases e : j = y
        · rw [decide_eq_true e, e, decide_eq_true ⟨rfl, e3⟩]
        · rw [decide_eq_false e, decide_eq_false (fun z => e (by cases z.1; rfl))]
theorem B_holders_e {q m n x : Nat} (hq : oka q 20 m = true) (hn : n ≤ m) (hm : m ≤ 32) (hx : x < 32) : EV ρ (d + 1) 225 0 [.ref q, .int (nI n), .int (nI x), zU, zU] [] (mk c R I L) = some ([.int (bR n (fun j => bt (I q j) x))], mk c R I L) := by
  obtain ⟨h1, h2⟩ := oka_20 hq
  have loop : ∀ (r k : Nat), k + r = n → EV ρ (d + 1) 225 5 [.ref q, .int (nI n), .int (nI x), .int (bR k (fun j => bt (I q j) x)), .int (nI k)] [] (mk c R I L) = some ([.int (bR n (fun j => bt (I q j) x))], mk c R I L) := by
    intro r
    induction r with
    | zero =>
      intro k hk
      rw [bB_holdersOf_5, if_pos (nI_le (by omega) (by omega)), show k = n from by omega]
    | succ r ih =>
      intro k hk
      have hi := ih (k + 1) (by omega)
      rw [bR_s] at hi
      rw [bB_holdersOf_5, if_neg (nI_ge (by omega) (by omega)), h1, cond_true, h2, if_neg (nI_ge (by omega) (by omega)), zar hq, zidx_n (by omega) (by omega), nI_add]
      cases e : bt (I q k) x with
      | true =>
        rw [(hs_b hx _).mpr e]
        rw [e, if_pos rfl] at hi
        exact hi
      | false =>
        rw [(hs_0 hx _).mpr e, Int32.zero_shiftLeft, Int32.or_zero]
        rw [e, if_neg (by decide)] at hi
        exact hi
  rw [bB_holdersOf_0]
  exact loop n 0 (by omega)
theorem Ben_boundTo_e (h : CX P b p T R I) (hI : IV P T) {v : Nat} (hvn : v < 2 ^ 31) : EV ρ (d + 1) 185 0 [.ref b, .int (nI v), zU, zU] [] (mk c R I L) = some ([.int (nI (its T v).length)], mk c R I L) := by
  obtain ⟨hb, hV, hR, hC, hT⟩ := h
  have h12 := hV.1
  have h8 := hV.2.1
  have hv := hI.1.1
  obtain ⟨rw1, rw2, rw3, rw4⟩ := xb_r14 hb
  have hr := hT.2.2.2.2.1
  have hl12 := hr.2.1
  have loop : ∀ (n k a : Nat), k + n = T.1.2.2.1.length → EV ρ (d + 1) 185 4 [.ref b, .int (nI v), .int (nI a), .int (nI k)] [] (mk c R I L) = some ([.int (nI (a + ((T.1.2.2.1.drop k).filter (fun x => decide (T.1.1.1.2 x = v))).length))], mk c R I L) := by
    intro n
    induction n with
    | zero =>
      intro k a hk
      rw [List.drop_of_length_le (by omega), bBen_boundTo_4, zob (xb_o hb), xb_F13 hb, zrs, zob rw1, hr.1, if_pos (nI_le (by omega) (by omega))]
      rfl
    | succ n ih =>
      intro k a hk
      have hkl : k < T.1.2.2.1.length := by omega
      have hy := (hv.2.2.1.2 _).mp (List.getElem_mem hkl)
      have hgv := hr.2.2 k _ (List.getElem?_eq_getElem hkl)
      rw [List.drop_eq_getElem_cons hkl]
      generalize T.1.2.2.1[k] = y at hy hgv
      have hby := (hI.1.2.2 y hy.2).1
      rw [bBen_boundTo_4, zob (xb_o hb), xb_F13 hb, zrs, zob rw1, hr.1, if_neg (nI_ge (by omega) (by omega)), zob (xb_o hb), zob (xb_o hb), zrs, zob rw1, rw2, zrs, zar rw3, zidx_n (by omega) (by decide), xb_F3 hb, zrs, hgv, zar (xb_a2 hb), zidx_n (by omega) (by decide), (hT.1 y (by omega)).2 hy.2]
      by_cases e1 : T.1.1.1.2 y = v
      · rw [if_pos (by rw [e1]), List.filter_cons_of_pos (by simp [e1]), nI_add, nI_add, ih (k + 1) (a + 1) (by omega), List.length_cons, show a + 1 + ((T.1.2.2.1.drop (k + 1)).filter (fun x => decide (T.1.1.1.2 x = v))).length = a + (((T.1.2.2.1.drop (k + 1)).filter (fun x => decide (T.1.1.1.2 x = v))).length + 1) from by omega]
      · rw [if_neg (by rw [nI_eq (by omega) hvn]; exact e1), List.filter_cons_of_neg (by simp [e1]), nI_add, nI_add, Nat.add_zero]
        exact ih (k + 1) a (by omega)
  have := loop T.1.2.2.1.length 0 0 (by omega)
  rw [Nat.zero_add, List.drop_zero] at this
  rw [bBen_boundTo_0]
  exact this
theorem Ben_linkCount_e (h : CX P b p T R I) (hv : TV P T) : EV ρ (d + 2) 186 0 [.ref b, zU, zU] [] (mk c R I L) = some ([.int (nI (lkN T P.1.1))], mk c R I L) := by
  obtain ⟨hb, hV, hR, hC, hT⟩ := h
  have h12 := hV.1
  have hp := hC.1
  have loop : ∀ (n k a : Nat), k + n = P.1.1 → EV ρ (d + 2) 186 4 [.ref b, .int (nI a), .int (nI k)] [] (mk c R I L) = some ([.int (nI (a + (((List.range P.1.1).drop k).map (fun x => cb (T.1.2.2.2 x) 12)).sum))], mk c R I L) := by
    intro n
    induction n with
    | zero =>
      intro k a hk
      rw [rg_nil (by omega), bBen_linkCount_4, zob (xb_o hb), hR, zrs, zob (xp_o hp), hC.2.1, if_pos (nI_le (by omega) (by omega))]
      rfl
    | succ n ih =>
      intro k a hk
      have hkd : k < P.1.1 := by omega
      rw [rg_cons hkd, bBen_linkCount_4, zob (xb_o hb), hR, zrs, zob (xp_o hp), hC.2.1, if_neg (nI_ge hkd (by omega)), zob (xb_o hb), xb_F8 hb, zrs, zar (xb_a7 hb), zidx_n (by omega) (by decide), (hT.2.1 k (by omega)).2.2.1, Int_bitCount_e (hv.2.2.2.2.2.1 k), zci, bBen_linkCount_25, nI_add, nI_add, ih (k + 1) _ (by omega), List.map_cons, List.sum_cons, Nat.add_assoc]
  have := loop P.1.1 0 0 (by omega)
  rw [Nat.zero_add, List.drop_zero] at this
  rw [bBen_linkCount_0]
  exact this
end CASK2
