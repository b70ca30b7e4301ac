-- THE COMPONENT'S BENCH: questions
theorem ofk_lt {P : PT} (hV : PV P) {v : Nat} (hv : v < P.1.2.1) {k : Nat} (hk : k = 2 ∨ k = 3) : ∀ j ∈ ofk k (P.2.2.2.1 v), j < 8 := fun j hj => by
  unfold ofk at hj
  obtain ⟨z, hz, rfl⟩ := List.mem_map.mp hj
  obtain ⟨h1, h2⟩ := List.mem_filter.mp hz
  have h2 := of_decide_eq_true h2
  obtain ⟨-, -, g2, g3, -⟩ := sp_oks hV hv z h1
  rcases hk with rfl | rfl
  · exact g2 h2
  · exact g3 h2
theorem hst_f : ∀ (l : List (Nat × Nat)) (a : Int32), (l.filter isT).foldl (hst 0) a = l.foldl (fun a z => if z.1 = 0 then a + nI z.2 else a) a
  | [], _ => rfl
  | z :: l, a => by
    rw [List.foldl_cons, ← hst_f l]
    by_cases e : z.1 = 0
    · rw [List.filter_cons_of_pos (by simp [isT, e]), List.foldl_cons, if_pos e]
      unfold hst
      rw [if_pos e, if_pos rfl]
    · rw [if_neg e]
      by_cases e2 : isT z = true
      · rw [List.filter_cons_of_pos e2, List.foldl_cons]
        unfold hst
        rw [if_neg e]
      · rw [List.filter_cons_of_neg e2]
section CASK1
variable {ρ : Nat × (Nat → Int32)} {d : Nat} {c : Nat × Nat} {R : Nat → Nat → Option Nat} {I J : Nat → Nat → Int32} {L : Nat → Nat → Int64} {P : PT} {b p : Nat} {T : TT}
theorem Ben_poolOf_e (h : CX P b p T R I) (hI : IV P T) {x : Nat} (hx : x < P.1.1) : EV ρ (d + 1) 184 0 [.ref b, .int (nI x), zU, zU, zU] [] (mk c R I L) = some ([.int (had0 T x)], mk c R I L) := by
  obtain ⟨hb, hV, hR, hC, hT⟩ := h
  have h12 := hV.1
  have h8 := hV.2.1
  have hp := hC.1
  have hs := hI.1.1.1 x
  rw [bBen_poolOf_0, zob (xb_o hb), xb_F2 hb, zrs, zar (xb_a1 hb), zidx_n (by omega) (by decide), (hT.1 x (by omega)).1]
  unfold had0
  by_cases e3 : T.1.1.1.1 x = 3
  · obtain ⟨hby, htk⟩ := hI.1.2.2 x e3
    rw [htk, hst_f, if_pos (by rw [e3]), zob (xb_o hb), xb_F3 hb, zrs, zar (xb_a2 hb), zidx_n (by omega) (by decide), (hT.1 x (by omega)).2 e3, pk_mul, Nat.mul_comm _ 6]
    have hb2 := (hT.1 x (by omega)).2 e3
    generalize T.1.1.1.2 x = v at hby hb2
    have h6 := (hV.2.2.2.2.2.1 v hby).1
    have loop : ∀ (n k : Nat) (a : Int32), k + n = (P.2.2.2.1 v).length → EV ρ (d + 1) 184 27 [.ref b, .int (nI x), .int (nI (6 * v)), .int a, .int (nI (6 * v + k))] [] (mk c R I L) = some ([.int (((P.2.2.2.1 v).drop k).foldl (fun a z => if z.1 = 0 then a + nI z.2 else a) a)], mk c R I L) := by
      intro n
      induction n with
      | zero =>
        intro k a hk
        rw [List.drop_of_length_le (by omega), bBen_poolOf_27, zob (xb_o hb), hR, zrs, zob (xp_o hp), zob (xb_o hb), xb_F3 hb, zrs, zar (xb_a2 hb), zidx_n (by omega) (by decide), xp_F12 hp, zrs, hb2, zar (xp_a10 hp), zidx_n (by omega) (by decide), (hC.2.2.2.2.2 v hby).1, nI_add, if_pos (nI_le (by omega) (by omega))]
        rfl
      | succ n ih =>
        intro k a hk
        have hkl : k < (P.2.2.2.1 v).length := by omega
        have hz := sp_oks hV hby _ (List.getElem_mem hkl)
        have hg := (hC.2.2.2.2.2 v hby).2.1 k _ (List.getElem?_eq_getElem hkl)
        rw [List.drop_eq_getElem_cons hkl, List.foldl_cons]
        generalize (P.2.2.2.1 v)[k] = z at hz hg
        have h4 := hz.1
        have ek : (some (1005 + z.1) = some 1005) ↔ (z.1 = 0) := by simp
        rw [bBen_poolOf_27, zob (xb_o hb), hR, zrs, zob (xp_o hp), zob (xb_o hb), xb_F3 hb, zrs, zar (xb_a2 hb), zidx_n (by omega) (by decide), xp_F12 hp, zrs, hb2, zar (xp_a10 hp), zidx_n (by omega) (by decide), (hC.2.2.2.2.2 v hby).1, nI_add, if_neg (nI_ge (by omega) (by omega)), zob (xb_o hb), zrs, zob (xp_o hp), xp_F13 hp, zrs, zar (xp_a11 hp), zidx_n (by omega) (by decide), hg.1, zrk (by omega) (by omega)]
        by_cases e : z.1 = 0
        · rw [if_pos (ek.mpr e), if_pos e, zob (xb_o hb), zrs, zob (xp_o hp), xp_F14 hp, zrs, zar (xp_a12 hp), zidx_n (by omega) (by decide), hg.2, nI_add]
          exact ih (k + 1) _ (by omega)
        · rw [if_neg (fun w => e (ek.mp w)), if_neg e, nI_add, show a + nI 0 = a from Int32.add_zero a]
          exact ih (k + 1) a (by omega)
    exact loop (P.2.2.2.1 v).length 0 (nI 0) (by omega)
  · rw [if_neg (by rw [nI_eq (by omega) (by decide)]; exact e3), hI.1.2.1 x e3]
    rfl
theorem Ben_lacks_e (h : CX P b p T R I) (hv : TV P T) {x : Nat} (hx : x < P.1.1) : EV ρ (d + 3) 187 0 [.ref b, .int (nI x), zU, zU] [] (mk c R I L) = some ([.int (lks P T x)], mk c R I L) := by
  have h' := h
  obtain ⟨hb, hV, hR, hC, hT⟩ := h
  have h12 := hV.1
  have h8 := hV.2.1
  have hp := hC.1
  have hn := ne_lt hV hx
  have hn32 : ∀ k ∈ P.2.2.1 x, k < 32 := fun k hk => by have := hn k hk; omega
  have eg : ∀ i, i < 8 → (I (b + 9) i = -1 ↔ T.2.1.2.1 i = none) := fun i hi => by
    rw [hT.2.2.1.2.1 i hi]
    cases e : T.2.1.2.1 i with
    | none => simp [eO]
    | some y =>
      have := hv.2.2.2.1 i y e
      rw [eO_s]
      constructor
      · exact fun z => absurd z (nI_m1 (by omega))
      · exact fun z => by cases z
  rw [bBen_lacks_0, zob (xb_o hb), Ben_inLine_e h' hx (by decide), zci, bBen_lacks_6, zob (xb_o hb), hR, zrs, zob (xp_o hp), xp_F10 hp, zrs, zar (xp_a8 hp), zidx_n (by omega) (by decide), (hC.2.2.2.2.1 x hx).2.2.2.2.1]
  cases el : (lnL P T x)[0]? with
  | none =>
    rw [show eO (none : Option Nat) = -1 from rfl, if_pos rfl, zob (xb_o hb), xb_F10 hb, zrs, B_placesOf_e (xb_a9 hb) (by decide) (by decide), zci, bBen_lacks_47]
    congr 3
    congr 1
    refine b_ext (fun i hi => ?_)
    unfold lks
    rw [b_and, b_or, bt_bits hn32, show bt (nI 0) i = false from b_0 i, Bool.or_false, bt_R (by decide), bt_R (by decide), el]
    by_cases h8 : i < 8
    · simp [h8, eg i h8]
    · simp [h8]
  | some v =>
    have hvn : v < P.1.2.1 := lnL_lt hV hx (List.mem_of_getElem? el)
    have ho := ofk_lt hV hvn (k := 2) (Or.inl rfl)
    have ho32 : ∀ k ∈ ofk 2 (P.2.2.2.1 v), k < 32 := fun k hk => by have := ho k hk; omega
    rw [eO_s, if_neg (nI_m1 (by omega)), zob (xb_o hb), zrs, zob (xp_o hp), xp_F15 hp, zrs, zar (xp_a13 hp), zidx_n (by omega) (by decide), (hC.2.2.2.2.2 v hvn).2.2.1, zob (xb_o hb), xb_F10 hb, zrs, B_placesOf_e (xb_a9 hb) (by decide) (by decide), zci, bBen_lacks_47]
    congr 3
    congr 1
    refine b_ext (fun i hi => ?_)
    unfold lks
    rw [b_and, b_or, bt_bits hn32, bt_bits ho32, bt_R (by decide), bt_R (by decide), el]
    by_cases h8 : i < 8
    · simp [h8, eg i h8]
    · simp [h8]
end CASK1
