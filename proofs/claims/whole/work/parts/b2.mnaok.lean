-- new int[n][k]: what the abstract machine says of it
theorem zrow_i {q n : Nat} {r : List Value × Sg} : ∀ {m j : Nat} {s : Sg} {f : Sg → Rs}, q < s.1.1 → zrow zC zN q n m j s f = some r → ∃ τ : Sg, f τ = some r ∧ τ.1 = (s.1.1 + m, s.1.2.1, s.1.2.2 + m * n) ∧ (∀ i, i < m → zC (s.1.1 + i) = 20 ∧ zN (s.1.1 + i) = n) ∧ (∀ k, k < s.1.1 → k ≠ q → sam s τ k) ∧ (∀ i, i < m → τ.2.2.2.1 (s.1.1 + i) = fun _ => 0) ∧
    (∀ i, τ.2.1 q i = if j ≤ i ∧ i < j + m then some (s.1.1 + (i - j)) else s.2.1 q i) := by
  intro m
  induction m with
  | zero =>
    intro j s f hq h
    refine ⟨s, h, ?_, fun i hi => absurd hi (Nat.not_lt_zero _), fun k _ _ => ⟨rfl, rfl, rfl, rfl⟩, fun i hi => absurd hi (Nat.not_lt_zero _), fun i => ?_⟩
    · rw [Nat.zero_mul]
      rfl
    · rw [if_neg (by omega)]
  | succ m ih =>
    intro j s f hq h
    have h : znew zC zN s 20 n (fun r s => zrow zC zN q n m (j + 1) (s.1, z2 s.2.1 q j (some r), s.2.2.1, s.2.2.2.1, s.2.2.2.2) f) = some r := h
    obtain ⟨hx0, hc, hn, -, h⟩ := znew_i h
    have h : zrow zC zN q n m (j + 1) ((nwS s n).1, z2 (nwS s n).2.1 q j (some s.1.1), (nwS s n).2.2.1, (nwS s n).2.2.2.1, (nwS s n).2.2.2.2) f = some r := h
    have hq1 : q ≠ s.1.1 := Nat.ne_of_lt hq
    obtain ⟨τ, t1, t2, t3, t4, t5, t6⟩ := ih (show q < ((nwS s n).1, z2 (nwS s n).2.1 q j (some s.1.1), (nwS s n).2.2.1, (nwS s n).2.2.2.1, (nwS s n).2.2.2.2).1.1 from Nat.lt_succ_of_lt hq) h
    have t3 : ∀ i, i < m → zC (s.1.1 + 1 + i) = 20 ∧ zN (s.1.1 + 1 + i) = n := t3
    have t5 : ∀ i, i < m → τ.2.2.2.1 (s.1.1 + 1 + i) = fun _ => 0 := t5
    have t2 : τ.1 = (s.1.1 + 1 + m, s.1.2.1, s.1.2.2 + n + m * n) := t2
    have hsam : ∀ k, k < s.1.1 → k ≠ q → sam s ((nwS s n).1, z2 (nwS s n).2.1 q j (some s.1.1), (nwS s n).2.2.1, (nwS s n).2.2.2.1, (nwS s n).2.2.2.2) k := fun k hk hkq => by
      obtain ⟨a1, a2, a3, a4⟩ := nwS_ne (σ := s) (n := n) (Nat.ne_of_lt hk)
      exact ⟨by show z2 (nwS s n).2.1 q j (some s.1.1) k = _; rw [z2_ne hkq]; exact a1, a2, a3, a4⟩
    refine ⟨τ, t1, ?_, ?_, ?_, ?_, ?_⟩
    · rw [t2, Nat.succ_mul]
      have e1 : s.1.1 + 1 + m = s.1.1 + (m + 1) := by omega
      have e2 : s.1.2.2 + n + m * n = s.1.2.2 + (m * n + n) := by omega
      rw [e1, e2]
    · intro i hi
      rcases i with _ | i
      · exact ⟨hc, hn⟩
      · have := t3 i (by omega)
        rw [show s.1.1 + (i + 1) = s.1.1 + 1 + i by omega]
        exact this
    · intro k hk hkq
      obtain ⟨a1, a2, a3, a4⟩ := hsam k hk hkq
      obtain ⟨b1, b2, b3, b4⟩ := t4 k (Nat.lt_succ_of_lt hk) hkq
      exact ⟨b1.trans a1, b2.trans a2, b3.trans a3, b4.trans a4⟩
    · intro i hi
      rcases i with _ | i
      · obtain ⟨b1, b2, b3, b4⟩ := t4 s.1.1 (Nat.lt_succ_self _) (fun z => hq1 z.symm)
        exact b3.trans (nwS_eq (σ := s) (n := n)).2.2.1
      · have := t5 i (by omega)
        rw [show s.1.1 + (i + 1) = s.1.1 + 1 + i by omega]
        exact this
    · intro i
      rw [t6 i]
      by_cases c1 : j + 1 ≤ i ∧ i < j + 1 + m
      · rw [if_pos c1, if_pos (by omega)]
        show some (s.1.1 + 1 + (i - (j + 1))) = _
        congr 1
        omega
      · rw [if_neg c1]
        show z2 (nwS s n).2.1 q j (some s.1.1) q i = _
        rw [z2_eq]
        unfold va_up
        by_cases c2 : i = j
        · rw [if_pos c2, if_pos (by omega)]
          congr 1
          omega
        · rw [if_neg c2, if_neg (by omega)]
          show (nwS s n).2.1 q i = _
          rw [(nwS_ne (σ := s) (n := n) hq1).1]
section MNAOK
variable {bs : Nat} {ra : Nat → Nat} {cA : Nat → ClassId} {dC : Nat → ClassId} {dI : Nat → Nat → Nat} {ρ : Nat × (Nat → Int32)} {X : State → Heap → Prop} {l : Launch}
set_option maxHeartbeats 2000000 in
theorem mna_ok (hXm : ∀ U H, X U H → XM U) (hac : Cond.arrayClass .int ∈ lw_tbl) : MnaOK bs ra cA dC dI ρ X l := by
  intro p e R s m args below meth c cc own nL Q c0 s0 k r pc x w xs st σ F hsz hR hRs hk1 hk hw hd h
  obtain ⟨n, kd, t, rfl, h⟩ := zi2_i h
  obtain ⟨⟨hn, hkd⟩, h⟩ := ite_i h
  obtain ⟨hx0, hzc, hzn, -, h⟩ := znew_i h
  obtain ⟨N, eN⟩ : ∃ N, n.toNatClampNeg = N := ⟨_, rfl⟩
  obtain ⟨M, eM⟩ : ∃ M, kd.toNatClampNeg = M := ⟨_, rfl⟩
  rw [eN] at hzn
  rw [eN, eM] at h
  have h : zrow zC zN σ.1.1 M N 0 (nwS σ N) (fun s => k (pc + 4) xs (.ref σ.1.1 :: t) s) = some r := h
  obtain ⟨τ, h, t2, t3, t4, t5, t6⟩ := zrow_i (Nat.lt_succ_self _) h
  have t2 : τ.1 = (σ.1.1 + 1 + N, σ.1.2.1, σ.1.2.2 + N + N * M) := t2
  have t3 : ∀ i, i < N → zC (σ.1.1 + 1 + i) = 20 ∧ zN (σ.1.1 + 1 + i) = M := t3
  have t5 : ∀ i, i < N → τ.2.2.2.1 (σ.1.1 + 1 + i) = fun _ => 0 := t5
  have t6 : ∀ i, i < N → τ.2.1 σ.1.1 i = some (σ.1.1 + 1 + i) := fun i hi => by
    rw [t6 i, if_pos ⟨Nat.zero_le _, by omega⟩]
    rfl
  have d1 : τ.1.1 = σ.1.1 + 1 + N := by rw [t2]
  have d2 : τ.1.2.1 = σ.1.2.1 := by rw [t2]
  have d3 : τ.1.2.2 = σ.1.2.2 + N + N * M := by rw [t2]
  have hle2 := hk1 _ _ _ _ h
  have l1 := hle2.1
  have l2 := hle2.2.1
  obtain ⟨hx, hb, hml, hown, hts, hK, hST, hbs⟩ := F
  intro ls H locs cells slots hnc0 hl hP hS hc hs
  refine W_size fun hz => ?_
  have hncs : σ.1.1 < NC := nc_of hzc (by decide)
  have hnct : τ.1.1 ≤ NC := by
    rw [d1]
    rcases Nat.eq_zero_or_pos N with z | z
    · omega
    · have := nc_of (t3 (N - 1) (by omega)).1 (by decide)
      omega
  have hHs : H.size = bs + σ.1.1 := by
    have a1 : H.size ≤ bs + σ.1.1 := by omega
    rcases hk0 : σ.1.1 with _ | k0
    · have := hS.1
      omega
    · have := (hP k0 _ (wsO_get (by omega))).lt
      have : bs + k0 < H.size := this
      omega
  have hN : N ≤ 60000000 := by
    have := Nat.zero_le (N * M)
    omega
  have hM : 0 < N → M ≤ 60000000 := fun z => by
    have : M ≤ N * M := Nat.le_mul_of_pos_left M z
    omega
  refine W_mna hx hb hown (hts _ (gd_in (lwk_m hw) rfl)) (hXm _ _ hST.2.2.2.2.2) (hts _ (gd_in hac rfl)) hd (Int32.not_lt.mpr hn) (Int32.not_lt.mpr hkd) eN eM hN hM (by omega) (by omega) (fun cX comp H1 f1 f2 hH => ?_)
  have e1 : cX = cA 23 := by
    have h9 : s.vm.findClass "[[I" = some (cA 23) := (hK.2 3 (cA 23, .array .int) rfl).2
    exact Option.some.inj (f1.symm.trans h9)
  have e2 : comp = cA 20 := by
    have h9 : s.vm.findClass "[I" = some (cA 20) := (hK.2 0 (cA 20, .int) rfl).2
    exact Option.some.inj (f2.symm.trans h9)
  subst e1; subst e2
  obtain ⟨g1, g2, g3, g4⟩ := hH
  rw [hHs] at g1 g2 g3 g4
  have hle : leS σ τ := ⟨by omega, by omega, fun _ => hnct⟩
  have hP1 : va_P (dC, dI) clz (wsO bs ra cA τ) H1 := by
    intro k9 q9 hk9
    obtain ⟨a1, rfl⟩ := wsO_lt hk9
    rw [d1] at a1
    rcases Nat.lt_or_ge k9 σ.1.1 with c1 | c1
    · have s1 := nwS_ne (σ := σ) (n := N) (Nat.ne_of_lt c1)
      have s2 := t4 k9 (Nat.lt_succ_of_lt c1) (Nat.ne_of_lt c1)
      have s3 : cel bs ra cA τ k9 = cel bs ra cA σ k9 := (sam_cel s2).trans (sam_cel s1)
      rw [s3]
      exact (hP k9 _ (wsO_get c1)).kept (g2 (bs + k9) (by omega))
    · rcases Nat.eq_or_lt_of_le c1 with c2 | c2
      · subst c2
        have s3 : cel bs ra cA τ σ.1.1 = .inl (cA 23, N, .inr (.inr (.inr (.inr fun j => (τ.2.1 σ.1.1 j).map (trN bs ra))))) := by
          unfold cel
          rw [hzc, hzn]
          rfl
        rw [s3]
        show H1[bs + σ.1.1]? = some (vp_cell (cA 23) (N, .inr (.inr (.inr (.inr fun j => (τ.2.1 σ.1.1 j).map (trN bs ra))))))
        rw [g3, vp_cell_q]
        congr 1
        refine arrV_ag (fun j hj => ?_)
        show (if j < N then Value.ref (bs + σ.1.1 + 1 + j) else .null) = va_rf ((τ.2.1 σ.1.1 j).map (trN bs ra))
        rw [if_pos hj, t6 j hj]
        show Value.ref (bs + σ.1.1 + 1 + j) = .ref (trN bs ra (σ.1.1 + 1 + j))
        rw [trN_lt (nc1000 (by omega)), show bs + σ.1.1 + 1 + j = bs + (σ.1.1 + 1 + j) by omega]
      · obtain ⟨i, rfl⟩ : ∃ i, k9 = σ.1.1 + 1 + i := ⟨k9 - (σ.1.1 + 1), by omega⟩
        have hi : i < N := by omega
        obtain ⟨z1, z2⟩ := t3 i hi
        have s3 : cel bs ra cA τ (σ.1.1 + 1 + i) = .inl (cA 20, M, .inl (fun _ => 0)) := by
          unfold cel
          rw [z1, z2, t5 i hi]
          rfl
        rw [s3]
        show H1[bs + (σ.1.1 + 1 + i)]? = some (vp_cell (cA 20) (M, .inl (fun _ => 0)))
        rw [vp_cell_i, show bs + (σ.1.1 + 1 + i) = bs + σ.1.1 + 1 + i by omega]
        exact g4 i hi
  have hS1 : va_S (zA bs) s.heap H1 locs := by
    refine ⟨by rw [g1]; have := hS.1; omega, fun q h1 h2 => ?_, hS.2.2⟩
    have h2 : ¬ bs ≤ q := h2
    rw [g2 q (by omega)]
    exact hS.2.1 q h1 h2
  have hgo := hk _ _ _ _ hle h ls H1 locs (cells + 1 + N) (slots + N + N * M) hnct hl hP1 hS1 (by omega) (by omega)
  rw [List.map_cons, show trV bs ra (.ref σ.1.1) = .ref H.size by show Value.ref (trN bs ra σ.1.1) = _; rw [trN_lt (nc1000 hncs), hHs]] at hgo
  exact hgo
end MNAOK
