-- THE COMPONENT'S BENCH: defer, idle, gets, steps, release
section CPROBE
variable {ρ : Nat × (Nat → Int32)} {d : Nat} {c : Nat × Nat} {R : Nat → Nat → Option Nat} {I J : Nat → Nat → Int32} {L : Nat → Nat → Int64} {P : PT} {b p : Nat} {T : TT}
/-- the frame, and the cells b + k that are the same too -/
def FZ (ks : List Nat) (b : Nat) (I J : Nat → Nat → Int32) : Prop := FB b I J ∧ ∀ k, k ∈ ks → J (b + k) = I (b + k)
theorem z2_at {α : Type} (f : Nat → Nat → α) (k j : Nat) (v : α) : z2 f k j v k j = v := by rw [z2a, if_pos ⟨rfl, rfl⟩]
theorem FZ.rf {ks : List Nat} : FZ ks b I I := ⟨FB.rf, fun _ _ => rfl⟩
theorem FZ.tr {ks : List Nat} {K : Nat → Nat → Int32} (h : FZ ks b I J) (g : FZ ks b J K) : FZ ks b I K := ⟨h.1.tr g.1, fun k hk => (g.2 k hk).trans (h.2 k hk)⟩
theorem FZ.mo {ks ls : List Nat} (h : FZ ks b I J) (hs : ∀ k, k ∈ ls → k ∈ ks) : FZ ls b I J := ⟨h.1, fun k hk => h.2 k (hs k hk)⟩
theorem FZ.zk {ks : List Nat} (h : FZ ks b I J) {m j : Nat} {v : Int32} (hm : m ≤ 17) (hn : m ∉ ks) : FZ ks b I (z2 J (b + m) j v) := ⟨h.1.zk hm, fun k hk => by
  have : k ≠ m := fun e => hn (e ▸ hk)
  rw [z2_ne (by omega)]
  exact h.2 k hk⟩
theorem FZ.z0 {ks : List Nat} (h : FZ ks b I J) {j : Nat} {v : Int32} (hn : 0 ∉ ks) : FZ ks b I (z2 J b j v) := ⟨h.1.z0, fun k hk => by
  have : k ≠ 0 := fun e => hn (e ▸ hk)
  rw [z2_ne (by omega)]
  exact h.2 k hk⟩
theorem FZ.eo {ks : List Nat} (h : FZ ks b I J) {K : Nat → Nat → Int32} {m : Nat} (hm : m ≤ 16) (hn : m ∉ ks ∧ m + 1 ∉ ks) (hE : Eo [b + m, b + m + 1] J K) : FZ ks b I K := ⟨h.1.eo hm hE, fun k hk => by
  have h1 : k ≠ m := fun e => hn.1 (e ▸ hk)
  have h2 : k ≠ m + 1 := fun e => hn.2 (e ▸ hk)
  rw [hE (b + k) (by simp only [List.mem_cons, List.not_mem_nil, or_false]; omega)]
  exact h.2 k hk⟩
theorem CX_to {U : TT} (h : CX P b p T R I) (hU : CR b U J) (hF : FB b I J) : CX P b p U R J := by
  obtain ⟨hb, hV, hR, hC, -⟩ := h
  have hge := xb_ge hb
  refine ⟨hb, hV, hR, PC_to hC hV (fun q h1 h2 => hF q ?_ ?_), hU⟩
  · have := hC.1; unfold isP at this; omega
  · have := hC.1; unfold isP at this; omega
/-- logging keeps all else -/
theorem Ben_logZ (h : CX P b p T R I) (x y z : Int32) : ∃ J, EV ρ (d + 2) 117 0 [.ref (jo b), .int x, .int y, .int z, zU] [] (mk c R I L) = some ([], mk c R J L) ∧ CX P b p (tLog T x y z) R J ∧ FZ [5, 12, 13, 16, 17] b I J ∧ J b = I b := by
  have hge := xb_ge h.1
  obtain ⟨J, g1, g2, g3, g4⟩ := Ben_log (ρ := ρ) (d := d) (c := c) (R := R) (L := L) h.1 h.2.2.2.2 x y z
  exact ⟨J, g1, CX_to h g2 g3, ⟨g3, fun k _ => g4 _ (by omega) (by omega)⟩, g4 _ (by omega) (by omega)⟩
theorem Ben_defer_e (h : CX P b p T R I) (hr : rwB T.1.2.1.2) {x : Nat} (hx : x < 12) : ∃ J, EV ρ (d + 2) 168 0 [.ref b, .int (nI x)] [] (mk c R I L) = some ([], mk c R J L) ∧ CX P b p (tDefer T x) R J ∧ FZ [5, 12, 13, 14, 15, 16, 17] b I J ∧ J b = I b := by
  obtain ⟨hb, hV, hR, hC, hT⟩ := h
  have h' : CX P b p T R I := ⟨hb, hV, hR, hC, hT⟩
  have h1 := CR_st hx (v := 2) (by decide) hb hT
  have hZ : FZ [5, 12, 13, 14, 15, 16, 17] b I (z2 I (b + 1) x (nI 2)) := FZ.rf.zk (by decide) (by decide)
  rw [bBen_defer_0, zob (xb_o hb), xb_F2 hb, zrs, zar (xb_a1 hb), zidx_n (by omega) (by decide), bBen_defer_7, zob (xb_o hb), xb_F11 hb, zrs, zob (xb_r10 hb).1, Row_placeOf_e (xb_r10 hb) h1.2.2.2.1 (fun y hy => by have := hr.2 y hy; omega) (by omega), zci, bBen_defer_15]
  unfold tDefer
  cases e : T.1.2.1.2.idxOf? x with
  | none =>
    have hm : x ∉ T.1.2.1.2 := List.idxOf?_eq_none_iff.mp e
    have hl := rw_len hr hx hm
    rw [show eO (none : Option Nat) = -1 from rfl, if_pos rfl, zob (xb_o hb), xb_F11 hb, zrs, zob (xb_r10 hb).1, Row_append_e (xb_r10 hb) h1.2.2.2.1 hl, zcv, bBen_defer_27, if_neg hm]
    have hE : Eo [b + 10, b + 10 + 1] (z2 I (b + 1) x (nI 2)) (z2 (z2 (z2 I (b + 1) x (nI 2)) (b + 10 + 1) T.1.2.1.2.length (nI x)) (b + 10) 1 (nI (T.1.2.1.2.length + 1))) := (Eo.rf.z2 (by simp)).z2 (by simp)
    have hZ2 := hZ.eo (m := 10) (by decide) (by decide) hE
    refine ⟨_, rfl, CX_to h' (CR_row hb h1 hE (RowIs_app h1.2.2.2.1 hl x)) hZ2.1, hZ2, ?_⟩
    rw [hE b (by simp only [List.mem_cons, List.not_mem_nil, or_false]; omega), z2_ne (by omega)]
  | some k =>
    have hm : x ∈ T.1.2.1.2 := Classical.byContradiction fun z => by
      rw [List.idxOf?_eq_none_iff.mpr z] at e
      cases e
    have hk : k < T.1.2.1.2.length := by
      rw [List.idxOf?, List.findIdx?_eq_some_iff_getElem] at e
      exact e.1
    have := h1.2.2.2.1.2.1
    have hk2 : k < 2 ^ 31 := by
      have h12 : T.1.2.1.2.length ≤ 12 := this
      omega
    rw [eO_s, if_neg (nI_m1 hk2), bBen_defer_27, if_pos hm]
    exact ⟨_, rfl, CX_to h' h1 hZ.1, hZ, z2_ne (by omega)⟩
theorem Ben_makeIdle_e (h : CX P b p T R I) (hr : rwB T.1.2.1.2) {x : Nat} (hx : x < 12) : ∃ J, EV ρ (d + 2) 169 0 [.ref b, .int (nI x)] [] (mk c R I L) = some ([], mk c R J L) ∧ CX P b p (tIdle T x) R J ∧ FZ [5, 12, 13, 14, 15, 16, 17] b I J ∧ J b = I b := by
  obtain ⟨hb, hV, hR, hC, hT⟩ := h
  have h' : CX P b p T R I := ⟨hb, hV, hR, hC, hT⟩
  have h1 := CR_st hx (v := 1) (by decide) hb hT
  have hZ : FZ [5, 12, 13, 14, 15, 16, 17] b I (z2 I (b + 1) x (nI 1)) := FZ.rf.zk (by decide) (by decide)
  obtain ⟨J, g1, g2, g3⟩ := Row_drop_e (ρ := ρ) (d := d) (c := c) (R := R) (L := L) (xb_r10 hb) h1.2.2.2.1 (fun y hy => by have := hr.2 y hy; omega) (v := x) (by omega)
  have hZ2 := hZ.eo (m := 10) (by decide) (by decide) g3
  rw [bBen_makeIdle_0, zob (xb_o hb), xb_F2 hb, zrs, zar (xb_a1 hb), zidx_n (by omega) (by decide), bBen_makeIdle_7, zob (xb_o hb), xb_F11 hb, zrs, zob (xb_r10 hb).1, g1, zcv, bBen_makeIdle_15]
  refine ⟨J, rfl, CX_to h' (CR_row hb h1 g3 g2) hZ2.1, hZ2, ?_⟩
  rw [g3 b (by simp only [List.mem_cons, List.not_mem_nil, or_false]; omega), z2_ne (by omega)]
/-- with what, behind a step -/
def tcu (r : (Nat × Int32) × TT) (x : Nat) : TT := u_ca r.2 (va_up r.2.1.1.2.2 x r.1.2)
theorem tcu_id {r : (Nat × Int32) × TT} {x : Nat} (h : r.2.1.1.2.2 x = r.1.2) : tcu r x = r.2 := by
  unfold tcu
  rw [← h, va_id]
theorem Ben_consume_e (h : CX P b p T R I) (hv : TV P T) {x z : Nat} (hx : x < P.1.1) (hz : z < 8) (hca : T.1.1.2.2 x = -1) : ∃ J, EV ρ (d + 2) 164 0 [.ref b, .int (nI x), .int (nI z), zU] [] (mk c R I L) = some ([.int (nI (tGets P T x z).1.1)], mk c R J L) ∧ CX P b p (tcu (tGets P T x z) x) R J ∧ FZ [5, 12, 13, 14, 15, 16, 17] b I J ∧ J b = I b := by
  have h' := h
  obtain ⟨hb, hV, hR, hC, hT⟩ := h
  have h12 := hV.1
  rw [bBen_consume_0, zob (xb_o hb), xb_F10 hb, zrs, zar (xb_a9 hb), zidx_n hz (by decide), hT.2.2.1.2.1 z hz]
  unfold tGets
  cases e : T.2.1.2.1 z with
  | none =>
    rw [show eO (none : Option Nat) = -1 from rfl, if_pos rfl, zob (xb_o hb), xb_F5 hb, zrs, zar (xb_a4 hb), zidx_n (by omega) (by decide), bBen_consume_19]
    have hZ : FZ [5, 12, 13, 14, 15, 16, 17] b I (z2 I (b + 4) x (nI z)) := FZ.rf.zk (by decide) (by decide)
    exact ⟨_, rfl, CX_to h' (CR_ca (by omega) _ hb hT) hZ.1, hZ, z2_ne (by omega)⟩
  | some g =>
    have hg := hv.2.2.2.1 z g e
    rw [eO_s, if_neg (nI_m1 (by omega))]
    dsimp only
    by_cases e1 : g = x
    · rw [if_pos (by rw [e1]), if_pos e1]
      refine ⟨I, rfl, ?_, FZ.rf, rfl⟩
      rw [tcu_id (by exact hca)]
      exact h'
    · rw [if_neg (by rw [nI_eq (by omega) (by omega)]; exact e1), if_neg e1, zob (xb_o hb), Ben_above_e h' (hv.ovB hV) hg, zci, bBen_consume_33]
      cases e2 : bt (abv P T g) x with
      | true =>
        rw [if_pos ((hs_b (by omega) _).mpr e2), zob (xb_o hb), xb_F5 hb, zrs, zar (xb_a4 hb), zidx_n (by omega) (by decide), bBen_consume_48]
        have hZ : FZ [5, 12, 13, 14, 15, 16, 17] b I (z2 I (b + 4) x (nI g)) := FZ.rf.zk (by decide) (by decide)
        exact ⟨_, rfl, CX_to h' (CR_ca (by omega) _ hb hT) hZ.1, hZ, z2_ne (by omega)⟩
      | false =>
        rw [if_neg (fun z => by rw [(hs_b (by omega) _).mp z] at e2; cases e2), zob (xb_o hb), xb_F7 hb, zrs, zar (xb_a6 hb), zidx_n (by omega) (by decide), zar (xb_a6 hb), zidx_n (by omega) (by decide), bBen_consume_62, (hT.2.1 x (by omega)).2.2.2]
        have hZ : FZ [5, 12, 13, 14, 15, 16, 17] b I (z2 I (b + 6) x (T.2.1.1.1 x ||| (nI 1 <<< (nI g &&& 31)))) := FZ.rf.zk (by decide) (by decide)
        refine ⟨_, rfl, ?_, hZ, z2_ne (by omega)⟩
        rw [tcu_id (by exact hca)]
        exact CX_to h' (CR_co (by omega) _ hb hT) hZ.1
theorem Ben_take_e (h : CX P b p T R I) (hv : TV P T) {x : Nat} {z : Nat × Nat} (hx : x < P.1.1) (hz : oks z) (h2 : z.1 ≠ 2) (hca : T.1.1.2.2 x = -1) : ∃ J, EV ρ (d + 1) 165 0 [.ref b, .int (nI x), .ref (1005 + z.1), .int (nI z.2)] [] (mk c R I L) = some ([.int (nI (tDo P T x z).1.1)], mk c R J L) ∧ CX P b p (tcu (tDo P T x z) x) R J ∧ FZ [5, 12, 13, 14, 15, 16, 17] b I J ∧ J b 17 = I b 17 ∧ J b 18 = I b 18 := by
  have h' := h
  obtain ⟨hb, hV, hR, hC, hT⟩ := h
  have h12 := hV.1
  obtain ⟨z1, zl, zg, zv, z5⟩ := hz
  have hk : z.1 = 0 ∨ z.1 = 1 ∨ z.1 = 3 ∨ z.1 = 4 := by omega
  rw [bBen_take_0]
  unfold tDo
  rcases hk with hk | hk | hk | hk
  · -- map
    rw [hk]
    simp only [show (Nat.ble 1000 (1005 + 0) && Nat.ble (1005 + 0) 1009) = true from rfl, cond_true, show (some (1005 + 0) = some 1006) = False from by simp, show (some (1005 + 0) = some 1008) = False from by simp, show (some (1005 + 0) = some 1005) = True from by simp, if_false, if_true]
    rw [zob (xb_o hb), hT.2.2.1.2.2.1]
    by_cases e : nI z.2 ≤ T.2.2.1.1
    · rw [if_pos e, if_pos e, zob (xb_o hb), zob (xb_o hb), bBen_take_108]
      have hZ : FZ [5, 12, 13, 14, 15, 16, 17] b I (z2 I b 15 (T.2.2.1.1 - nI z.2)) := FZ.rf.z0 (by decide)
      refine ⟨_, rfl, ?_, hZ, by rw [z2a, if_neg (by omega)], by rw [z2a, if_neg (by omega)]⟩
      rw [tcu_id (by exact hca)]
      exact CX_to h' (show CR b (u_pool T (T.2.2.1.1 - nI z.2)) _ from CR_pool _ hb hT) hZ.1
    · rw [if_neg e, if_neg e]
      refine ⟨I, rfl, ?_, FZ.rf, rfl, rfl⟩
      rw [tcu_id (by exact hca)]
      exact h'
  · -- line
    rw [hk]
    simp only [show (Nat.ble 1000 (1005 + 1) && Nat.ble (1005 + 1) 1009) = true from rfl, cond_true, show (some (1005 + 1) = some 1006) = True from by simp, if_true, show (1 = 0) = False from by simp, if_false]
    have hz2 := zl hk
    rw [zob (xb_o hb), zob (xb_o hb), xb_F9 hb, zrs, zar (xb_a8 hb), zidx_n (by omega) (by decide), xb_F5 hb, zrs, zar (xb_a4 hb), zidx_n (by omega) (by decide), hT.2.2.1.1 z.2 hz2, bBen_take_19, zob (xb_o hb), xb_F5 hb, zrs, zar (xb_a4 hb), zidx_n (by omega) (by decide), z2_at]
    have hlt : ∀ y, T.2.1.1.2 z.2 = some y → y < 2 ^ 31 := fun y hy => by have := hv.2.2.2.2.1 z.2 y hy; omega
    cases e : T.2.1.1.2 z.2 with
    | none =>
      rw [show eO (none : Option Nat) = -1 from rfl, if_pos rfl, zob (xb_o hb), xb_F9 hb, zrs, zar (xb_a8 hb), zidx_n (by omega) (by decide), bBen_take_38]
      have hZ : FZ [5, 12, 13, 14, 15, 16, 17] b I (z2 (z2 I (b + 4) x (-1)) (b + 8) z.2 (nI x)) := (FZ.rf.zk (by decide) (by decide)).zk (by decide) (by decide)
      have hA := CR_ca (show x < 12 by omega) (-1) hb hT
      rw [← hca, va_id, hca] at hA
      have hB := CR_ln hz2 (some x) hb hA
      refine ⟨_, rfl, ?_, hZ, by rw [z2_ne (by omega), z2_ne (by omega)], by rw [z2_ne (by omega), z2_ne (by omega)]⟩
      rw [tcu_id (by exact hca)]
      exact CX_to h' hB hZ.1
    | some y =>
      rw [eO_s, if_neg (nI_m1 (hlt y e))]
      have hZ : FZ [5, 12, 13, 14, 15, 16, 17] b I (z2 I (b + 4) x (nI y)) := FZ.rf.zk (by decide) (by decide)
      exact ⟨_, rfl, CX_to h' (CR_ca (by omega) _ hb hT) hZ.1, hZ, by rw [z2_ne (by omega)], by rw [z2_ne (by omega)]⟩
  · -- give
    rw [hk]
    simp only [show (Nat.ble 1000 (1005 + 3) && Nat.ble (1005 + 3) 1009) = true from rfl, cond_true, show (some (1005 + 3) = some 1006) = False from by simp, show (some (1005 + 3) = some 1008) = True from by simp, if_true, if_false, show (3 = 0) = False from by simp, show (3 = 1) = False from by simp, show (3 = 2) = False from by simp]
    have hz2 := zv hk
    rw [zob (xb_o hb), zob (xb_o hb), xb_F10 hb, zrs, zar (xb_a9 hb), zidx_n (by omega) (by decide), xb_F5 hb, zrs, zar (xb_a4 hb), zidx_n (by omega) (by decide), hT.2.2.1.2.1 z.2 hz2, bBen_take_59, zob (xb_o hb), xb_F5 hb, zrs, zar (xb_a4 hb), zidx_n (by omega) (by decide), z2_at]
    have hlt : ∀ y, T.2.1.2.1 z.2 = some y → y < 2 ^ 31 := fun y hy => by have := hv.2.2.2.1 z.2 y hy; omega
    cases e : T.2.1.2.1 z.2 with
    | none =>
      rw [show eO (none : Option Nat) = -1 from rfl, if_pos rfl, zob (xb_o hb), xb_F10 hb, zrs, zar (xb_a9 hb), zidx_n (by omega) (by decide), bBen_take_79]
      have hZ : FZ [5, 12, 13, 14, 15, 16, 17] b I (z2 (z2 I (b + 4) x (-1)) (b + 9) z.2 (nI x)) := (FZ.rf.zk (by decide) (by decide)).zk (by decide) (by decide)
      have hA := CR_ca (show x < 12 by omega) (-1) hb hT
      rw [← hca, va_id, hca] at hA
      have hB := CR_gv hz2 (some x) hb hA
      refine ⟨_, rfl, ?_, hZ, by rw [z2_ne (by omega), z2_ne (by omega)], by rw [z2_ne (by omega), z2_ne (by omega)]⟩
      rw [tcu_id (by exact hca)]
      exact CX_to h' hB hZ.1
    | some y =>
      rw [eO_s, if_neg (nI_m1 (hlt y e))]
      have hZ : FZ [5, 12, 13, 14, 15, 16, 17] b I (z2 I (b + 4) x (nI y)) := FZ.rf.zk (by decide) (by decide)
      exact ⟨_, rfl, CX_to h' (CR_ca (by omega) _ hb hT) hZ.1, hZ, by rw [z2_ne (by omega)], by rw [z2_ne (by omega)]⟩
  · -- break
    rw [hk]
    simp only [show (Nat.ble 1000 (1005 + 4) && Nat.ble (1005 + 4) 1009) = true from rfl, cond_true, show (some (1005 + 4) = some 1006) = False from by simp, show (some (1005 + 4) = some 1008) = False from by simp, show (some (1005 + 4) = some 1005) = False from by simp, if_false, show (4 = 0) = False from by simp, show (4 = 1) = False from by simp, show (4 = 2) = False from by simp, show (4 = 3) = False from by simp]
    refine ⟨I, rfl, ?_, FZ.rf, rfl, rfl⟩
    rw [tcu_id (by exact hca)]
    exact h'
end CPROBE
