-- RINGS: distances, on the pure state and in the reference
section DST
variable {W : Nat → Int32} {n x : Nat}
/-- a way of m steps from k to x -/
def rc (W : Nat → Int32) (n x : Nat) : Nat → Nat → Prop
  | 0, k => k = x
  | m + 1, k => ∃ o, o < n ∧ bt (W k) o = true ∧ rc W n x m o
noncomputable def dst (W : Nat → Int32) (n x k : Nat) : Nat := @dite Nat (∃ m, rc W n x m k) (Classical.propDecidable _) (fun h => (pk_least _ h).choose) (fun _ => 99)
def ed (W : Nat → Int32) (n x d k : Nat) : Prop := rc W n x d k ∧ ∀ j, j < d → ¬ rc W n x j k
theorem dst_ed {m k : Nat} (h : rc W n x m k) : ed W n x (dst W n x k) k ∧ dst W n x k ≤ m := by
  have hx : ∃ m, rc W n x m k := ⟨m, h⟩
  have e : dst W n x k = (pk_least _ hx).choose := by unfold dst; rw [dif_pos hx]
  have hs := (pk_least _ hx).choose_spec
  rw [e]
  exact ⟨hs, Classical.byContradiction fun z => hs.2 m (by omega) h⟩
theorem dst_no {k : Nat} (h : ¬ ∃ m, rc W n x m k) : dst W n x k = 99 := by unfold dst; rw [dif_neg h]
theorem ed_u {d e k : Nat} (h : ed W n x d k) (g : ed W n x e k) : d = e := by
  rcases Nat.lt_trichotomy d e with z | z | z
  · exact absurd h.1 (g.2 d z)
  · exact z
  · exact absurd g.1 (h.2 e z)
theorem ed_s {d k : Nat} (h : ed W n x (d + 1) k) : ∃ o, o < n ∧ bt (W k) o = true ∧ ed W n x d o := by
  obtain ⟨o, h1, h2, h3⟩ := h.1
  exact ⟨o, h1, h2, h3, fun j hj hr => h.2 (j + 1) (by omega) ⟨o, h1, h2, hr⟩⟩
theorem ed_chain : ∀ (d k : Nat), k < n → ed W n x d k → ∃ l : List Nat, l.length = d + 1 ∧ (∀ y ∈ l, y < n) ∧ l.Nodup ∧ ∀ y ∈ l, ∃ j, j ≤ d ∧ ed W n x j y
  | 0, k, hk, h => ⟨[k], rfl, fun y hy => by rw [List.mem_singleton.mp hy]; exact hk, by simp, fun y hy => ⟨0, Nat.le_refl _, by rw [List.mem_singleton.mp hy]; exact h⟩⟩
  | d + 1, k, hk, h => by
    obtain ⟨o, h1, h2, h3⟩ := ed_s h
    obtain ⟨l, l1, l2, l3, l4⟩ := ed_chain d o h1 h3
    refine ⟨k :: l, by simp [l1], fun y hy => ?_, List.nodup_cons.mpr ⟨fun z => ?_, l3⟩, fun y hy => ?_⟩
    · rcases List.mem_cons.mp hy with rfl | hy
      · exact hk
      · exact l2 y hy
    · obtain ⟨j, hj, he⟩ := l4 k z
      have := ed_u h he
      omega
    · rcases List.mem_cons.mp hy with rfl | hy
      · exact ⟨d + 1, Nat.le_refl _, h⟩
      · obtain ⟨j, hj, he⟩ := l4 y hy
        exact ⟨j, by omega, he⟩
theorem dst_lt {m k : Nat} (hk : k < n) (h : rc W n x m k) : dst W n x k < n := by
  obtain ⟨l, l1, l2, l3, -⟩ := ed_chain _ k hk (dst_ed h).1
  have := nd_len l3 l2
  omega
theorem dst_99 {k : Nat} (hn : n ≤ 12) (hk : k < n) (h : dst W n x k < 99) : ed W n x (dst W n x k) k ∧ dst W n x k < n := by
  by_cases e : ∃ m, rc W n x m k
  · obtain ⟨m, hm⟩ := e
    exact ⟨(dst_ed hm).1, dst_lt hk hm⟩
  · rw [dst_no e] at h
    omega
theorem dst_le (hn : n ≤ 12) {k : Nat} (hk : k < n) : dst W n x k ≤ 99 := by
  by_cases e : ∃ m, rc W n x m k
  · obtain ⟨m, hm⟩ := e
    have := dst_lt hk hm
    omega
  · rw [dst_no e]
    exact Nat.le_refl _
/-- the length of the ring -/
noncomputable def lstF (W : Nat → Int32) (n x : Nat) : Nat := (List.range n).foldl (fun m o => if bt (W x) o = true ∧ dst W n x o + 1 < m then dst W n x o + 1 else m) 99
theorem lst_p : ∀ (l : List Nat) (m : Nat), (l.foldl (fun m o => if bt (W x) o = true ∧ dst W n x o + 1 < m then dst W n x o + 1 else m) m = m ∨ ∃ o ∈ l, bt (W x) o = true ∧ l.foldl (fun m o => if bt (W x) o = true ∧ dst W n x o + 1 < m then dst W n x o + 1 else m) m = dst W n x o + 1) ∧ l.foldl (fun m o => if bt (W x) o = true ∧ dst W n x o + 1 < m then dst W n x o + 1 else m) m ≤ m ∧ ∀ o ∈ l, bt (W x) o = true → l.foldl (fun m o => if bt (W x) o = true ∧ dst W n x o + 1 < m then dst W n x o + 1 else m) m ≤ dst W n x o + 1
  | [], m => ⟨Or.inl rfl, Nat.le_refl _, fun o ho => by cases ho⟩
  | a :: l, m => by
    rw [List.foldl_cons]
    obtain ⟨h1, h2, h3⟩ := lst_p l (if bt (W x) a = true ∧ dst W n x a + 1 < m then dst W n x a + 1 else m)
    by_cases e : bt (W x) a = true ∧ dst W n x a + 1 < m
    · rw [if_pos e] at h1 h2 h3 ⊢
      refine ⟨Or.inr ?_, by omega, fun o ho hb => ?_⟩
      · rcases h1 with h1 | ⟨o, ho, hb, h1⟩
        · exact ⟨a, List.mem_cons_self, e.1, h1⟩
        · exact ⟨o, List.mem_cons_of_mem _ ho, hb, h1⟩
      · rcases List.mem_cons.mp ho with rfl | ho
        · exact h2
        · exact h3 o ho hb
    · rw [if_neg e] at h1 h2 h3 ⊢
      refine ⟨?_, h2, fun o ho hb => ?_⟩
      · rcases h1 with h1 | ⟨o, ho, hb, h1⟩
        · exact Or.inl h1
        · exact Or.inr ⟨o, List.mem_cons_of_mem _ ho, hb, h1⟩
      · rcases List.mem_cons.mp ho with rfl | ho
        · have : m ≤ dst W n x o + 1 := Classical.byContradiction fun z => e ⟨hb, by omega⟩
          omega
        · exact h3 o ho hb
/-- the ring's places -/
noncomputable def rgA (W : Nat → Int32) (n x L : Nat) : Nat → Nat
  | 0 => x
  | k + 1 => ((List.range n).find? (fun o => bt (W (rgA W n x L k)) o && decide (dst W n x o = L - 1 - k))).getD 0
theorem find_ex {p : Nat → Bool} {o : Nat} (ho : o < n) (hp : p o = true) : ∃ y, (List.range n).find? p = some y ∧ y < n ∧ p y = true := by
  cases e : (List.range n).find? p with
  | none => exact absurd hp (List.find?_eq_none.mp e o (List.mem_range.mpr ho))
  | some y => exact ⟨y, rfl, List.mem_range.mp (List.mem_of_find?_eq_some e), List.find?_some e⟩
theorem rgA_p (hn : n ≤ 12) (hx : x < n) (hL : lstF W n x < 99) : ∀ k, k < lstF W n x → rgA W n x (lstF W n x) k < n ∧ (1 ≤ k → ed W n x (lstF W n x - k) (rgA W n x (lstF W n x) k)) ∧ (k + 1 < lstF W n x → ∃ y, (List.range n).find? (fun o => bt (W (rgA W n x (lstF W n x) k)) o && decide (dst W n x o = lstF W n x - 1 - k)) = some y ∧ y < n ∧ rgA W n x (lstF W n x) (k + 1) = y ∧ dst W n x y = lstF W n x - 1 - k)
  | 0, hk => by
    refine ⟨hx, fun z => by omega, fun hk2 => ?_⟩
    obtain ⟨h1, -, -⟩ := lst_p (W := W) (n := n) (x := x) (List.range n) 99
    rcases h1 with h1 | ⟨o, ho, hb, h1⟩
    · exact absurd h1 (fun z => by have hh : lstF W n x = 99 := z; omega)
    · have ho := List.mem_range.mp ho
      have h1 : lstF W n x = dst W n x o + 1 := h1
      obtain ⟨y, hy1, hy2, hy3⟩ := find_ex (p := fun o => bt (W (rgA W n x (lstF W n x) 0)) o && decide (dst W n x o = lstF W n x - 1 - 0)) ho (by
        show (bt (W x) o && _) = true
        rw [hb, Bool.true_and]
        exact decide_eq_true (by omega))
      refine ⟨y, hy1, hy2, ?_, of_decide_eq_true (Bool.and_eq_true_iff.mp hy3).2⟩
      show ((List.range n).find? _).getD 0 = y
      rw [hy1]; rfl
  | k + 1, hk => by
    obtain ⟨-, -, h3⟩ := rgA_p hn hx hL k (by omega)
    obtain ⟨y, hy1, hy2, hy3, hy4⟩ := h3 hk
    have hed : ed W n x (lstF W n x - (k + 1)) (rgA W n x (lstF W n x) (k + 1)) := by
      rw [hy3]
      have := (dst_99 (W := W) (x := x) hn hy2 (by rw [hy4]; omega)).1
      rw [hy4] at this
      rw [show lstF W n x - (k + 1) = lstF W n x - 1 - k by omega]
      exact this
    refine ⟨by rw [hy3]; exact hy2, fun _ => hed, fun hk2 => ?_⟩
    rw [show lstF W n x - (k + 1) = (lstF W n x - (k + 2)) + 1 by omega] at hed
    obtain ⟨o, o1, o2, o3⟩ := ed_s hed
    have hd : dst W n x o = lstF W n x - 1 - (k + 1) := by
      have := ed_u (dst_ed o3.1).1 o3
      omega
    obtain ⟨z, hz1, hz2, hz3⟩ := find_ex (p := fun o => bt (W (rgA W n x (lstF W n x) (k + 1))) o && decide (dst W n x o = lstF W n x - 1 - (k + 1))) o1 (by
      rw [o2, Bool.true_and]
      exact decide_eq_true hd)
    refine ⟨z, hz1, hz2, ?_, of_decide_eq_true (Bool.and_eq_true_iff.mp hz3).2⟩
    show ((List.range n).find? _).getD 0 = z
    rw [hz1]; rfl
end DST
noncomputable def rgL (P : PT) (T : TT) (x : Nat) : Nat := lstF (wts P T) P.1.1 x
noncomputable def pRin (P : PT) (T : TT) (v w : Int32) : Int32 := if inN v P.1.1 = true then (if w = -1 ∧ rgL P T v.toNatClampNeg < 99 then nI (rgL P T v.toNatClampNeg) else if inN w (rgL P T v.toNatClampNeg) = true ∧ rgL P T v.toNatClampNeg < 99 then nI (rgA (wts P T) P.1.1 v.toNatClampNeg (rgL P T v.toNatClampNeg) w.toNatClampNeg) else -1) else -1
section MRING
variable {ρ : Nat × (Nat → Int32)} {d : Nat} {c : Nat × Nat} {R : Nat → Nat → Option Nat} {I : Nat → Nat → Int32} {L : Nat → Nat → Int64} {P : PT} {sd : Nat} {T : TT}
theorem MX_8 {J : Nat → Nat → Int32} (h : MX P sd T I) (hJ : ∀ q, q ≠ 278 → J q = I q) : MX P sd T J := ⟨h.1, PM_to h.2.1 (fun q hq => hJ q (by
  have : ∀ q, q ∈ bdM → q ≠ 278 := by decide
  exact this q hq)) (by rw [hJ 257 (by decide)]), by rw [hJ 274 (by decide)]; exact h.2.2⟩
def FmI (P : PT) (T : TT) (x : Nat) (I : Nat → Nat → Int32) (f : Nat → Nat) : Prop := (∀ k, k < P.1.1 → I 278 k = nI (f k)) ∧ ∀ k, k < P.1.1 → f k ≤ 99 ∧ (f k < 99 → rc (wts P T) P.1.1 x (f k) k)
theorem M_far_o (h : MX P sd T I) (hT : TV P T) {x p k : Nat} (hk : k < P.1.1) : ∀ (m o : Nat) (f : Nat → Nat) (J : Nat → Nat → Int32), o + m = P.1.1 → (∀ q, q ≠ 278 → J q = I q) → FmI P T x J f → ∃ K f', EV ρ (d + 8) 97 54 [.ref 257, zU, .int (nI p), .int (nI k), .int (nI o)] [] (mk c R J L) = EV ρ (d + 8) 97 43 [.ref 257, zU, .int (nI p), .int (nI (k + 1)), zU] [] (mk c R K L) ∧ (∀ q, q ≠ 278 → K q = I q) ∧ FmI P T x K f' ∧ (∀ j, f' j ≤ f j) ∧ ∀ o', o ≤ o' → o' < P.1.1 → bt (wts P T k) o' = true → f' k ≤ f o' + 1 := by
  have hV := h.1
  have h12 := hV.1
  intro m
  induction m with
  | zero =>
    intro o f J ho hJ hF
    have hM := MX_8 h hJ
    refine ⟨J, f, ?_, hJ, hF, fun _ => Nat.le_refl _, fun o' h1 h2 => by omega⟩
    rw [bM_laysFar_54, M_devices_e hM.2.1, zci, bM_laysFar_60, if_pos (nI_le (by omega) (by omega)), nI_add]
  | succ m ih =>
    intro o f J ho hJ hF
    have hM := MX_8 h hJ
    have hon : o < P.1.1 := by omega
    rw [bM_laysFar_54, M_devices_e hM.2.1, zci, bM_laysFar_60, if_neg (nI_ge (by omega) (by omega)), M_waitsFor_e hM hT hk, zci, bM_laysFar_68, M_has_e _ (by omega), zci, bM_laysFar_73]
    have hfo := (hF.2 o hon).1
    have hfk := (hF.2 k hk).1
    have skip : (bt (wts P T k) o = true → f k ≤ f o + 1) → ∃ K f', EV ρ (d + 8) 97 109 [.ref 257, zU, .int (nI p), .int (nI k), .int (nI o)] [] (mk c R J L) = EV ρ (d + 8) 97 43 [.ref 257, zU, .int (nI p), .int (nI (k + 1)), zU] [] (mk c R K L) ∧ (∀ q, q ≠ 278 → K q = I q) ∧ FmI P T x K f' ∧ (∀ j, f' j ≤ f j) ∧ ∀ o', o ≤ o' → o' < P.1.1 → bt (wts P T k) o' = true → f' k ≤ f o' + 1 := fun hb => by
      rw [bM_laysFar_109, nI_add]
      obtain ⟨K, f', g1, g2, g3, g4, g5⟩ := ih (o + 1) f J (by omega) hJ hF
      refine ⟨K, f', g1, g2, g3, g4, fun o' h1 h2 h3 => ?_⟩
      by_cases e : o' = o
      · subst e
        have := hb h3
        have := g4 k
        omega
      · exact g5 o' (by omega) h2 h3
    cases eb : bt (wts P T k) o with
    | false =>
      rw [if_pos (by decide)]
      exact skip (fun z => by rw [eb] at z; cases z)
    | true =>
      rw [if_neg (by decide), zidx_n (by omega) (by decide), zidx_n (by omega) (by decide), zidx_n (by omega) (by decide), zidx_n (by omega) (by decide), hF.1 o hon, hF.1 k hk, nI_add]
      by_cases e : f k ≤ f o + 1
      · rw [if_pos (nI_le e (by omega))]
        exact skip (fun _ => e)
      · rw [if_neg (nI_ge (by omega) (by omega)), bM_laysFar_109, nI_add]
        have hF1 : FmI P T x (z2 J 278 k (nI (f o + 1))) (va_up f k (f o + 1)) := ⟨fun j hj => by
          rw [z2a]
          unfold va_up
          by_cases ej : j = k
          · rw [if_pos ⟨rfl, ej⟩, if_pos ej]
          · rw [if_neg (fun z => ej z.2), if_neg ej]
            exact hF.1 j hj, fun j hj => by
          unfold va_up
          by_cases ej : j = k
          · rw [if_pos ej, ej]
            exact ⟨by omega, fun hh => ⟨o, hon, eb, (hF.2 o hon).2 (by omega)⟩⟩
          · rw [if_neg ej]
            exact hF.2 j hj⟩
        obtain ⟨K, f', g1, g2, g3, g4, g5⟩ := ih (o + 1) (va_up f k (f o + 1)) _ (by omega) (fun q hq => by rw [z2_ne hq]; exact hJ q hq) hF1
        have hle : ∀ j, va_up f k (f o + 1) j ≤ f j := fun j => by
          unfold va_up
          split
          · rename_i ej
            rw [ej]; omega
          · exact Nat.le_refl _
        refine ⟨K, f', g1, g2, g3, fun j => Nat.le_trans (g4 j) (hle j), fun o' h1 h2 h3 => ?_⟩
        by_cases e' : o' = o
        · subst e'
          have := g4 k
          rw [va_up_self] at this
          exact this
        · have := g5 o' (by omega) h2 h3
          have := hle o'
          omega
theorem M_far_k (h : MX P sd T I) (hT : TV P T) {x p : Nat} : ∀ (m k : Nat) (f : Nat → Nat) (J : Nat → Nat → Int32), k + m = P.1.1 → (∀ q, q ≠ 278 → J q = I q) → FmI P T x J f → ∃ K f', EV ρ (d + 8) 97 43 [.ref 257, zU, .int (nI p), .int (nI k), zU] [] (mk c R J L) = EV ρ (d + 8) 97 35 [.ref 257, zU, .int (nI (p + 1)), zU, zU] [] (mk c R K L) ∧ (∀ q, q ≠ 278 → K q = I q) ∧ FmI P T x K f' ∧ (∀ j, f' j ≤ f j) ∧ ∀ k', k ≤ k' → k' < P.1.1 → ∀ o, o < P.1.1 → bt (wts P T k') o = true → f' k' ≤ f o + 1 := by
  have hV := h.1
  have h12 := hV.1
  intro m
  induction m with
  | zero =>
    intro k f J hk hJ hF
    have hM := MX_8 h hJ
    refine ⟨J, f, ?_, hJ, hF, fun _ => Nat.le_refl _, fun k' h1 h2 => by omega⟩
    rw [bM_laysFar_43, M_devices_e hM.2.1, zci, bM_laysFar_48, if_pos (nI_le (by omega) (by omega)), nI_add]
  | succ m ih =>
    intro k f J hk hJ hF
    have hM := MX_8 h hJ
    rw [bM_laysFar_43, M_devices_e hM.2.1, zci, bM_laysFar_48, if_neg (nI_ge (by omega) (by omega))]
    obtain ⟨K, f1, g1, g2, g3, g4, g5⟩ := M_far_o (ρ := ρ) (d := d) (c := c) (R := R) (L := L) h hT (x := x) (p := p) (k := k) (by omega) P.1.1 0 f J (by omega) hJ hF
    obtain ⟨K2, f2, k1, k2, k3, k4, k5⟩ := ih (k + 1) f1 K (by omega) g2 g3
    rw [g1]
    refine ⟨K2, f2, k1, k2, k3, fun j => Nat.le_trans (k4 j) (g4 j), fun k' h1 h2 o ho hb => ?_⟩
    by_cases e : k' = k
    · subst e
      have := g5 o (by omega) ho hb
      have := k4 k'
      omega
    · have := k5 k' (by omega) h2 o ho hb
      have := g4 o
      omega
theorem M_far_p (h : MX P sd T I) (hT : TV P T) {x : Nat} : ∀ (m p : Nat) (f : Nat → Nat) (J : Nat → Nat → Int32), p + m = 12 → (∀ q, q ≠ 278 → J q = I q) → FmI P T x J f → (∀ k, k < P.1.1 → ∀ j, j ≤ p → rc (wts P T) P.1.1 x j k → f k ≤ j) → ∃ K f', EV ρ (d + 8) 97 35 [.ref 257, zU, .int (nI p), zU, zU] [] (mk c R J L) = some ([], mk c R K L) ∧ (∀ q, q ≠ 278 → K q = I q) ∧ FmI P T x K f' ∧ ∀ k, k < P.1.1 → ∀ j, j ≤ 12 → rc (wts P T) P.1.1 x j k → f' k ≤ j := by
  intro m
  induction m with
  | zero =>
    intro p f J hp hJ hF hle
    obtain rfl : p = 12 := by omega
    exact ⟨J, f, by rw [bM_laysFar_35, if_pos (nI_le (by omega) (by omega))], hJ, hF, hle⟩
  | succ m ih =>
    intro p f J hp hJ hF hle
    rw [bM_laysFar_35, if_neg (nI_ge (by omega) (by omega))]
    obtain ⟨K, f1, g1, g2, g3, g4, g5⟩ := M_far_k (ρ := ρ) (d := d) (c := c) (R := R) (L := L) h hT (x := x) (p := p) P.1.1 0 f J (by omega) hJ hF
    rw [g1]
    refine ih (p + 1) f1 K (by omega) g2 g3 (fun k hk j hj hr => ?_)
    cases j with
    | zero => exact Nat.le_trans (g4 k) (hle k hk 0 (by omega) hr)
    | succ j =>
      obtain ⟨o, o1, o2, o3⟩ := hr
      have := g5 k (by omega) hk o o1 o2
      have := hle o o1 j (by omega) o3
      omega
theorem M_laysFar_e (h : MX P sd T I) (hT : TV P T) {x : Nat} (hx : x < P.1.1) : ∃ K, EV ρ (d + 8) 97 0 [.ref 257, .int (nI x), zU, zU, zU] [] (mk c R I L) = some ([], mk c R K L) ∧ (∀ q, q ≠ 278 → K q = I q) ∧ ∀ k, k < P.1.1 → K 278 k = nI (dst (wts P T) P.1.1 x k) := by
  have hV := h.1
  have h12 := hV.1
  have init : ∀ (m k : Nat) (J : Nat → Nat → Int32), k + m = P.1.1 → (∀ q, q ≠ 278 → J q = I q) → (∀ j, j < k → J 278 j = nI (if j = x then 0 else 99)) → ∃ K, EV ρ (d + 8) 97 2 [.ref 257, .int (nI x), .int (nI k), zU, zU] [] (mk c R J L) = EV ρ (d + 8) 97 35 [.ref 257, zU, .int (nI 0), zU, zU] [] (mk c R K L) ∧ (∀ q, q ≠ 278 → K q = I q) ∧ ∀ j, j < P.1.1 → K 278 j = nI (if j = x then 0 else 99) := by
    intro m
    induction m with
    | zero =>
      intro k J hk hJ hF
      have hM := MX_8 h hJ
      refine ⟨J, ?_, hJ, fun j hj => hF j (by omega)⟩
      rw [bM_laysFar_2, M_devices_e hM.2.1, zci, bM_laysFar_7, if_pos (nI_le (by omega) (by omega))]
    | succ m ih =>
      intro k J hk hJ hF
      have hM := MX_8 h hJ
      rw [bM_laysFar_2, M_devices_e hM.2.1, zci, bM_laysFar_7, if_neg (nI_ge (by omega) (by omega)), zidx_n (by omega) (by decide), zidx_n (by omega) (by decide)]
      have key : (if nI k = nI x then EV ρ (d + 8) 97 27 [.ref 257, .int (nI x), .int (nI k), zU, zU] [] (mk c R (z2 J 278 k (nI 0)) L) else EV ρ (d + 8) 97 27 [.ref 257, .int (nI x), .int (nI k), zU, zU] [] (mk c R (z2 J 278 k (nI 99)) L)) = EV ρ (d + 8) 97 27 [.ref 257, .int (nI x), .int (nI k), zU, zU] [] (mk c R (z2 J 278 k (nI (if k = x then 0 else 99))) L) := by
        by_cases e : k = x
        · rw [if_pos (by rw [e]), if_pos e]
        · rw [if_neg (by rw [nI_eq (by omega) (by omega)]; exact e), if_neg e]
      rw [key, bM_laysFar_27, nI_add]
      refine ih (k + 1) _ (by omega) (fun q hq => by rw [z2_ne hq]; exact hJ q hq) (fun j hj => ?_)
      rw [z2a]
      by_cases e : j = k
      · rw [if_pos ⟨rfl, e⟩, e]
      · rw [if_neg (fun z => e z.2)]
        exact hF j (by omega)
  obtain ⟨K, g1, g2, g3⟩ := init P.1.1 0 I (by omega) (fun _ _ => rfl) (fun j hj => by omega)
  obtain ⟨K2, f, k1, k2, k3, k4⟩ := M_far_p (ρ := ρ) (d := d) (c := c) (R := R) (L := L) h hT (x := x) 12 0 (fun j => if j = x then 0 else 99) K rfl g2 ⟨g3, fun k hk => ⟨by dsimp only; split <;> omega, fun hh => by
    dsimp only at hh ⊢
    split at hh
    · rename_i e
      rw [if_pos e]
      exact e
    · omega⟩⟩ (fun k hk j hj hr => by
    obtain rfl : j = 0 := by omega
    have hr : k = x := hr
    show (if k = x then 0 else 99) ≤ 0
    rw [if_pos hr]
    exact Nat.le_refl _)
  rw [bM_laysFar_0, g1, k1]
  refine ⟨K2, rfl, k2, fun k hk => ?_⟩
  rw [k3.1 k hk]
  congr 1
  by_cases e : ∃ m, rc (wts P T) P.1.1 x m k
  · obtain ⟨m, hm⟩ := e
    have h1 := dst_lt hk hm
    have h2 := k4 k hk _ (by omega) (dst_ed hm).1.1
    have h3 := (dst_ed ((k3.2 k hk).2 (by omega))).2
    omega
  · rw [dst_no e]
    have h1 := k3.2 k hk
    exact Classical.byContradiction fun z => e ⟨_, h1.2 (by omega)⟩
theorem M_onward_l (h : MX P sd T I) (hT : TV P T) {x y l : Nat} (hf : ∀ k, k < P.1.1 → I 278 k = nI (dst (wts P T) P.1.1 x k)) (hy : y < P.1.1) (hl : l < 99) : ∀ (n k : Nat), k + n = P.1.1 → EV ρ (d + 8) 98 2 [.ref 257, .int (nI y), .int (nI l), .int (nI k)] [] (mk c R I L) = some ([.int (eO (((List.range P.1.1).drop k).find? (fun o => bt (wts P T y) o && decide (dst (wts P T) P.1.1 x o = l))))], mk c R I L) := by
  have hV := h.1
  have h12 := hV.1
  intro n
  induction n with
  | zero =>
    intro k hk
    rw [rg_nil (by omega), bM_onward_2, M_devices_e h.2.1, zci, bM_onward_7, if_pos (nI_le (by omega) (by omega))]
    rfl
  | succ n ih =>
    intro k hk
    have hkn : k < P.1.1 := by omega
    have hd := dst_le (W := wts P T) (x := x) h12 hkn
    rw [rg_cons (by omega), List.find?_cons, bM_onward_2, M_devices_e h.2.1, zci, bM_onward_7, if_neg (nI_ge (by omega) (by omega)), M_waitsFor_e h hT hy, zci, bM_onward_15, M_has_e _ (by omega), zci, bM_onward_19, nI_add]
    cases eb : bt (wts P T y) k with
    | false =>
      rw [if_pos (by decide), Bool.false_and]
      exact ih (k + 1) (by omega)
    | true =>
      rw [if_neg (by decide), Bool.true_and, zidx_n (by omega) (by decide), hf k hkn]
      by_cases e : dst (wts P T) P.1.1 x k = l
      · rw [if_pos (by rw [e]), decide_eq_true e]; rfl
      · rw [if_neg (by rw [nI_eq (by omega) (by omega)]; exact e), decide_eq_false e]
        exact ih (k + 1) (by omega)
theorem M_onward_e (h : MX P sd T I) (hT : TV P T) {x y l : Nat} (hf : ∀ k, k < P.1.1 → I 278 k = nI (dst (wts P T) P.1.1 x k)) (hy : y < P.1.1) (hl : l < 99) : EV ρ (d + 8) 98 0 [.ref 257, .int (nI y), .int (nI l), zU] [] (mk c R I L) = some ([.int (eO ((List.range P.1.1).find? (fun o => bt (wts P T y) o && decide (dst (wts P T) P.1.1 x o = l))))], mk c R I L) := by
  rw [bM_onward_0]
  exact M_onward_l h hT hf hy hl P.1.1 0 (by omega)
theorem lst_99 (W : Nat → Int32) (n x : Nat) : lstF W n x ≤ 99 := (lst_p (W := W) (n := n) (x := x) (List.range n) 99).2.1
theorem M_ring_least (h : MX P sd T I) (hT : TV P T) {x : Nat} (hx : x < P.1.1) (w : Int32) (hf : ∀ k, k < P.1.1 → I 278 k = nI (dst (wts P T) P.1.1 x k)) : ∀ (n k m : Nat), k + n = P.1.1 → m ≤ 99 → EV ρ (d + 30) 99 31 [.ref 257, .int (nI x), .int w, .int (nI m), .int (nI k), zU] [] (mk c R I L) = (if nI 99 ≤ nI (((List.range P.1.1).drop k).foldl (fun m o => if bt (wts P T x) o = true ∧ dst (wts P T) P.1.1 x o + 1 < m then dst (wts P T) P.1.1 x o + 1 else m) m) then some ([.int (-1)], mk c R I L) else (if w < nI (((List.range P.1.1).drop k).foldl (fun m o => if bt (wts P T x) o = true ∧ dst (wts P T) P.1.1 x o + 1 < m then dst (wts P T) P.1.1 x o + 1 else m) m) then (if w = -1 then some ([.int (nI (((List.range P.1.1).drop k).foldl (fun m o => if bt (wts P T x) o = true ∧ dst (wts P T) P.1.1 x o + 1 < m then dst (wts P T) P.1.1 x o + 1 else m) m))], mk c R I L) else EV ρ (d + 30) 99 108 [.ref 257, zU, .int w, .int (nI (((List.range P.1.1).drop k).foldl (fun m o => if bt (wts P T x) o = true ∧ dst (wts P T) P.1.1 x o + 1 < m then dst (wts P T) P.1.1 x o + 1 else m) m)), .int (nI x), .int (nI 0)] [] (mk c R I L)) else some ([.int (-1)], mk c R I L))) := by
  have hV := h.1
  have h12 := hV.1
  intro n
  induction n with
  | zero =>
    intro k m hk hm
    rw [rg_nil (by omega), bM_ring_31, M_devices_e h.2.1, zci, bM_ring_37, if_pos (nI_le (by omega) (by omega))]
    rfl
  | succ n ih =>
    intro k m hk hm
    have hkn : k < P.1.1 := by omega
    have hd := dst_le (W := wts P T) (x := x) h12 hkn
    rw [rg_cons (by omega), List.foldl_cons, bM_ring_31, M_devices_e h.2.1, zci, bM_ring_37, if_neg (nI_ge (by omega) (by omega)), M_waitsFor_e h hT hx, zci, bM_ring_45, M_has_e _ (by omega), zci, bM_ring_50, nI_add k 1]
    cases eb : bt (wts P T x) k with
    | false =>
      rw [if_pos (by decide), if_neg (show ¬ (false = true ∧ dst (wts P T) P.1.1 x k + 1 < m) from fun z => by cases z.1)]
      exact ih (k + 1) m (by omega) hm
    | true =>
      rw [if_neg (by decide), zidx_n (by omega) (by decide), zidx_n (by omega) (by decide), hf k hkn, nI_add]
      by_cases e : m ≤ dst (wts P T) P.1.1 x k + 1
      · rw [if_pos (nI_le e (by omega)), if_neg (show ¬ (true = true ∧ dst (wts P T) P.1.1 x k + 1 < m) from fun z => by have := z.2; omega)]
        exact ih (k + 1) m (by omega) hm
      · rw [if_neg (nI_ge (by omega) (by omega)), if_pos (show true = true ∧ dst (wts P T) P.1.1 x k + 1 < m from ⟨rfl, by omega⟩)]
        exact ih (k + 1) _ (by omega) (by omega)
theorem M_ring_a (h : MX P sd T I) (hT : TV P T) {x i : Nat} (hx : x < P.1.1) (hf : ∀ k, k < P.1.1 → I 278 k = nI (dst (wts P T) P.1.1 x k)) (hL : rgL P T x < 99) (hi : i < rgL P T x) : ∀ (n k : Nat), k + n = i → EV ρ (d + 30) 99 108 [.ref 257, zU, .int (nI i), .int (nI (rgL P T x)), .int (nI (rgA (wts P T) P.1.1 x (rgL P T x) k)), .int (nI k)] [] (mk c R I L) = some ([.int (nI (rgA (wts P T) P.1.1 x (rgL P T x) i))], mk c R I L) := by
  have hV := h.1
  have h12 := hV.1
  intro n
  induction n with
  | zero =>
    intro k hk
    obtain rfl : k = i := by omega
    rw [bM_ring_108, if_pos (nI_le (by omega) (by omega))]
  | succ n ih =>
    intro k hk
    obtain ⟨a1, a2, a3⟩ := rgA_p (W := wts P T) h12 hx hL k (by have : lstF (wts P T) P.1.1 x = rgL P T x := rfl; omega)
    obtain ⟨y, hy1, hy2, hy3, hy4⟩ := a3 (by have : lstF (wts P T) P.1.1 x = rgL P T x := rfl; omega)
    have a1' : rgA (wts P T) P.1.1 x (rgL P T x) k < P.1.1 := a1
    rw [bM_ring_108, if_neg (nI_ge (by omega) (by omega)), pk_sub (by omega), pk_sub (by omega), M_onward_e h hT hf a1' (by omega), zci]
    have hy1' : (List.range P.1.1).find? (fun o => bt (wts P T (rgA (wts P T) P.1.1 x (rgL P T x) k)) o && decide (dst (wts P T) P.1.1 x o = rgL P T x - 1 - k)) = some y := hy1
    rw [hy1', eO_s, bM_ring_126, nI_add]
    have := ih (k + 1) (by omega)
    rw [show rgA (wts P T) P.1.1 x (rgL P T x) (k + 1) = y from hy3] at this
    exact this
theorem M_ring_e (h : MX P sd T I) (hT : IV P T) (v w : Int32) : ∃ J, EV ρ (d + 30) 99 0 [.ref 257, .int v, .int w, zU, zU, zU] [] (mk c R I L) = some ([.int (pRin P T v w)], mk c R J L) ∧ MX P sd T J ∧ FT I J := by
  have hV := h.1
  have h12 := hV.1
  have h1 := MX_z2 (j := 2) (v := nI 0) h (by decide)
  have hF1 : FT I (z2 I 257 2 (nI 0)) := FT.rf.z2 (Or.inl rfl)
  rw [bM_ring_0, bM_ring_5, M_isDevice_e h1.2.1 h12, zci, bM_ring_10]
  unfold pRin
  by_cases hi : inN v P.1.1 = true
  · obtain ⟨x, hx, rfl⟩ := (inN_iff (by omega)).mp hi
    rw [nI_clamp (by omega), hi, if_neg (by decide), if_pos rfl]
    by_cases hw : -1 ≤ w
    · obtain ⟨K, k1, k2, k3⟩ := M_laysFar_e (ρ := ρ) (d := d + 21) (c := c) (R := R) (L := L) h1 hT.1.1 hx
      have hM := MX_8 h1 k2
      have hFT : FT I K := hF1.tr (fun q j hq => by rw [k2 q (by omega)])
      have hL9 := lst_99 (wts P T) P.1.1 x
      have hl : lstF (wts P T) P.1.1 x = rgL P T x := rfl
      have e := M_ring_least (ρ := ρ) (d := d) (c := c) (R := R) (L := L) hM hT.1.1 hx w k3 P.1.1 0 99 (by omega) (Nat.le_refl _)
      rw [List.drop_zero] at e
      have e' : EV ρ (d + 30) 99 31 [.ref 257, .int (nI x), .int w, .int (nI 99), .int (nI 0), zU] [] (mk c R K L) = (if nI 99 ≤ nI (rgL P T x) then some ([.int (-1)], mk c R K L) else (if w < nI (rgL P T x) then (if w = -1 then some ([.int (nI (rgL P T x))], mk c R K L) else EV ρ (d + 30) 99 108 [.ref 257, zU, .int w, .int (nI (rgL P T x)), .int (nI x), .int (nI 0)] [] (mk c R K L)) else some ([.int (-1)], mk c R K L))) := e
      rw [if_pos hw, k1, zcv, bM_ring_25, e']
      refine ⟨K, ?_, hM, hFT⟩
      by_cases hL : rgL P T x < 99
      · rw [if_neg (nI_ge hL (by decide))]
        by_cases e1 : w = -1
        · have e2 : w < nI (rgL P T x) := by
            rw [e1, Int32.lt_iff_toInt_lt, nI_toInt (by omega)]
            have : ((-1 : Int32)).toInt = -1 := by decide
            omega
          rw [if_pos e2, if_pos e1, if_pos ⟨e1, hL⟩]
        · rw [if_neg (show ¬ (w = -1 ∧ rgL P T x < 99) from fun z => e1 z.1)]
          have hw0 : ¬ w < 0 := by
            rw [Int32.lt_iff_toInt_lt]
            rw [Int32.le_iff_toInt_le] at hw
            have e2 : ((-1 : Int32)).toInt = -1 := by decide
            have e3 : ((0 : Int32)).toInt = 0 := by decide
            intro z
            have : w.toInt = -1 := by omega
            exact e1 (Int32.toInt_inj.mp (by rw [this, e2]))
          obtain ⟨i, hi2, rfl⟩ := nI_of hw0
          by_cases e4 : i < rgL P T x
          · rw [if_pos (nI_lt e4 (by omega)), if_neg e1, if_pos ⟨inN_n e4 (by omega), hL⟩, nI_clamp hi2]
            exact M_ring_a hM hT.1.1 hx k3 hL e4 i 0 (by omega)
          · rw [if_neg (nI_nlt (by omega) hi2), if_neg (fun z => by
              obtain ⟨j, hj, ej⟩ := (inN_iff (by omega)).mp z.1
              have := (nI_eq hi2 (by omega)).mp ej
              omega)]
      · rw [if_pos (nI_le (by omega) (by omega)), if_neg (fun z => hL z.2), if_neg (fun z => hL z.2)]
    · have e1 : ¬ w = -1 := fun z => hw (by rw [z]; exact Int32.le_refl _)
      rw [if_neg hw, if_neg (fun z => e1 z.1), if_neg (fun z => by
        have := lst_99 (wts P T) P.1.1 x
        obtain ⟨j, hj, ej⟩ := (inN_iff (by have : lstF (wts P T) P.1.1 x = rgL P T x := rfl; omega)).mp z.1
        have hl : lstF (wts P T) P.1.1 x = rgL P T x := rfl
        apply hw
        rw [ej, Int32.le_iff_toInt_le, nI_toInt (by omega)]
        have : ((-1 : Int32)).toInt = -1 := by decide
        omega)]
      exact ⟨_, rfl, h1, hF1⟩
  · rw [Bool.eq_false_iff.mpr hi, if_pos (by decide), if_neg (by decide)]
    exact ⟨_, rfl, h1, hF1⟩
end MRING
