-- INVERSIONS: what an answer of a part says
theorem zref_i {v : Value} {f : Nat → Rs} {r : List Value × Sg} (h : zref v f = some r) : ∃ k, v = .ref k ∧ f k = some r := by
  cases v <;> first | exact ⟨_, rfl, h⟩ | cases h
theorem znul_i {v : Value} {f : Option Nat → Rs} {r : List Value × Sg} (h : znul v f = some r) : ∃ o, v = zr o ∧ f o = some r := by
  cases v <;> first | exact ⟨some _, rfl, h⟩ | exact ⟨none, rfl, h⟩ | cases h
theorem znuk_i {v : Value} {f : Option Nat → Rs} {r : List Value × Sg} (h : znuk v f = some r) : ∃ o, v = zr o ∧ (∀ q, o = some q → 1000 ≤ q ∧ q ≤ 1009) ∧ f o = some r := by
  cases v with
  | ref q =>
    have h : (bif Nat.ble 1000 q && Nat.ble q 1009 then f (some q) else none) = some r := h
    cases hb : Nat.ble 1000 q && Nat.ble q 1009 with
    | false => rw [hb] at h; cases h
    | true =>
      rw [hb] at h
      rw [Bool.and_eq_true] at hb
      exact ⟨some q, rfl, fun q' e => by cases e; exact ⟨Nat.le_of_ble_eq_true hb.1, Nat.le_of_ble_eq_true hb.2⟩, h⟩
  | null => exact ⟨none, rfl, fun q e => (by cases e), h⟩
  | _ => cases h
theorem zint_i {v : Value} {f : Int32 → Rs} {r : List Value × Sg} (h : zint v f = some r) : ∃ k, v = .int k ∧ f k = some r := by
  cases v <;> first | exact ⟨_, rfl, h⟩ | cases h
theorem zlon_i {v : Value} {f : Int64 → Rs} {r : List Value × Sg} (h : zlon v f = some r) : ∃ k, v = .long k ∧ f k = some r := by
  cases v <;> first | exact ⟨_, rfl, h⟩ | cases h
theorem zdup_i {v : Value} {f : Value → Rs} {r : List Value × Sg} (h : zdup v f = some r) : v.category = 1 ∧ f v = some r := by
  cases v <;> first | exact ⟨rfl, h⟩ | cases h
theorem zp1_i {st : List Value} {f : Value → List Value → Rs} {r : List Value × Sg} (h : zp1 st f = some r) : ∃ v t, st = v :: t ∧ f v t = some r := by
  rcases st with _ | ⟨a, t⟩ <;> first | cases h; done | exact ⟨_, _, rfl, h⟩
theorem zp2_i {st : List Value} {f : Value → Value → List Value → Rs} {r : List Value × Sg} (h : zp2 st f = some r) : ∃ v w t, st = w :: v :: t ∧ f v w t = some r := by
  rcases st with _ | ⟨a, _ | ⟨b, t⟩⟩ <;> first | cases h; done | exact ⟨_, _, _, rfl, h⟩
theorem zp3_i {st : List Value} {f : Value → Value → Value → List Value → Rs} {r : List Value × Sg} (h : zp3 st f = some r) : ∃ u v w t, st = w :: v :: u :: t ∧ f u v w t = some r := by
  rcases st with _ | ⟨a, _ | ⟨b, _ | ⟨c, t⟩⟩⟩ <;> first | cases h; done | exact ⟨_, _, _, _, rfl, h⟩
theorem zi1_i {st : List Value} {f : Int32 → List Value → Rs} {r : List Value × Sg} (h : zi1 st f = some r) : ∃ x t, st = .int x :: t ∧ f x t = some r := by
  obtain ⟨v, t, rfl, h⟩ := zp1_i h
  obtain ⟨x, rfl, h⟩ := zint_i h
  exact ⟨x, t, rfl, h⟩
theorem zi2_i {st : List Value} {f : Int32 → Int32 → List Value → Rs} {r : List Value × Sg} (h : zi2 st f = some r) : ∃ x y t, st = .int y :: .int x :: t ∧ f x y t = some r := by
  obtain ⟨v, w, t, rfl, h⟩ := zp2_i h
  obtain ⟨x, rfl, h⟩ := zint_i h
  obtain ⟨y, rfl, h⟩ := zint_i h
  exact ⟨x, y, t, rfl, h⟩
theorem zl2_i {st : List Value} {f : Int64 → Int64 → List Value → Rs} {r : List Value × Sg} (h : zl2 st f = some r) : ∃ x y t, st = .long y :: .long x :: t ∧ f x y t = some r := by
  obtain ⟨v, w, t, rfl, h⟩ := zp2_i h
  obtain ⟨x, rfl, h⟩ := zlon_i h
  obtain ⟨y, rfl, h⟩ := zlon_i h
  exact ⟨x, y, t, rfl, h⟩
theorem zli_i {st : List Value} {f : Int64 → Int32 → List Value → Rs} {r : List Value × Sg} (h : zli st f = some r) : ∃ x y t, st = .int y :: .long x :: t ∧ f x y t = some r := by
  obtain ⟨v, w, t, rfl, h⟩ := zp2_i h
  obtain ⟨x, rfl, h⟩ := zlon_i h
  obtain ⟨y, rfl, h⟩ := zint_i h
  exact ⟨x, y, t, rfl, h⟩
theorem za1_i {a : List Nat} {f : Nat → Rs} {r : List Value × Sg} (h : za1 a f = some r) : ∃ j, a = [j] ∧ f j = some r := by
  rcases a with _ | ⟨a, _ | ⟨b, t⟩⟩ <;> first | exact ⟨_, rfl, h⟩ | cases h
theorem zld_i {xs : List Value} {j : Nat} {f : Value → Rs} {r : List Value × Sg} (h : zld xs j f = some r) : ∃ v, xs[j]? = some v ∧ f v = some r := by
  unfold zld at h
  cases hx : xs[j]? with
  | none => rw [hx] at h; cases h
  | some v => rw [hx] at h; exact ⟨v, rfl, h⟩
theorem bif_i {b : Bool} {x : Rs} {r : List Value × Sg} (h : (bif b then x else none) = some r) : b = true ∧ x = some r := by
  cases b <;> first | cases h; done | exact ⟨rfl, h⟩
theorem ite_i {c : Prop} {d : Decidable c} {x : Rs} {r : List Value × Sg} (h : @ite _ c d x none = some r) : c ∧ x = some r := by
  by_cases hc : c
  · rw [if_pos hc] at h; exact ⟨hc, h⟩
  · rw [if_neg hc] at h; cases h
theorem zst_i {xs : List Value} {j : Nat} {v : Value} {f : List Value → Rs} {r : List Value × Sg} (h : zst xs j v f = some r) : j < xs.length ∧ f ((zbef xs j).set j v) = some r := by
  obtain ⟨h1, h2⟩ := bif_i h
  exact ⟨Nat.blt_eq.mp h1, h2⟩
theorem zst2_i {xs : List Value} {j : Nat} {v : Value} {f : List Value → Rs} {r : List Value × Sg} (h : zst2 xs j v f = some r) : j + 1 < xs.length ∧ f (((zbef xs j).set j v).set (j + 1) zU) = some r := by
  obtain ⟨h1, h2⟩ := bif_i h
  exact ⟨Nat.blt_eq.mp h1, h2⟩
theorem zobj_i {s : Sg} {q c : Nat} {f : Rs} {r : List Value × Sg} (h : zobj zC s q c f = some r) : q < s.1.1 ∧ zC q = c ∧ f = some r := by
  obtain ⟨h1, h2⟩ := bif_i h
  rw [Bool.and_eq_true] at h1
  exact ⟨Nat.blt_eq.mp h1.1, Nat.eq_of_beq_eq_true h1.2, h2⟩
theorem zidx_i {i : Int32} {n : Nat} {f : Nat → Rs} {r : List Value × Sg} (h : zidx i n f = some r) : 0 ≤ i ∧ i.toNatClampNeg < n ∧ f i.toNatClampNeg = some r := by
  obtain ⟨h1, h2⟩ := ite_i h
  exact ⟨h1.1, h1.2, h2⟩
theorem zarr_i {s : Sg} {q c : Nat} {i : Int32} {f : Nat → Rs} {r : List Value × Sg} (h : zarr zC zN s q c i f = some r) : q < s.1.1 ∧ zC q = c ∧ vp_in i (zN q) ∧ f i.toNatClampNeg = some r := by
  obtain ⟨h1, h2, h3⟩ := zobj_i h
  obtain ⟨h4, h5, h6⟩ := zidx_i h3
  refine ⟨h1, h2, fun z => ?_, h6⟩
  rcases z with z | z
  · exact absurd h4 (Int32.not_le.mpr z)
  · omega
theorem zcI_i {o : Rs} {f : Int32 → Sg → Rs} {r : List Value × Sg} (h : zcI o f = some r) : ∃ x s, o = some ([.int x], s) ∧ f x s = some r := by
  rcases o with _ | ⟨_ | ⟨(_ | _ | _ | _ | _ | _ | _), _ | _⟩, _⟩ <;> first | exact ⟨_, _, rfl, h⟩ | cases h
theorem zcL_i {o : Rs} {f : Int64 → Sg → Rs} {r : List Value × Sg} (h : zcL o f = some r) : ∃ x s, o = some ([.long x], s) ∧ f x s = some r := by
  rcases o with _ | ⟨_ | ⟨(_ | _ | _ | _ | _ | _ | _), _ | _⟩, _⟩ <;> first | exact ⟨_, _, rfl, h⟩ | cases h
theorem zcR_i {o : Rs} {f : Nat → Sg → Rs} {r : List Value × Sg} (h : zcR o f = some r) : ∃ x s, o = some ([.ref x], s) ∧ f x s = some r := by
  rcases o with _ | ⟨_ | ⟨(_ | _ | _ | _ | _ | _ | _), _ | _⟩, _⟩ <;> first | exact ⟨_, _, rfl, h⟩ | cases h
theorem zcV_i {o : Rs} {f : Sg → Rs} {r : List Value × Sg} (h : zcV o f = some r) : ∃ s, o = some ([], s) ∧ f s = some r := by
  rcases o with _ | ⟨_ | _, _⟩ <;> first | exact ⟨_, rfl, h⟩ | cases h
def kw (k : Nat) : Nat := if k = 1 then 2 else 1
def vw (v : Value) : Nat := if v.category = 2 then 2 else 1
/-- what an argument of a kind is -/
def argk (s : Sg) (k : Nat) (v : Value) : Prop := match k with
  | 0 => ∃ x, v = .int x
  | 1 => ∃ x, v = .long x
  | 2 => ∃ x, v = .ref x
  | 3 => ∃ x, v = .ref x ∧ 1000 ≤ x ∧ x ≤ 1009
  | k + 4 => ∃ x, v = .ref x ∧ x < s.1.1 ∧ zC x = k
theorem argk_L {s : Sg} {k : Nat} {v : Value} (h : argk s k v) : isL v = true ∧ vw v = kw k := by
  rcases k with _ | _ | _ | _ | k
  · obtain ⟨x, rfl⟩ := h; exact ⟨rfl, rfl⟩
  · obtain ⟨x, rfl⟩ := h; exact ⟨rfl, rfl⟩
  · obtain ⟨x, rfl⟩ := h; exact ⟨rfl, rfl⟩
  · obtain ⟨x, rfl, -⟩ := h; exact ⟨rfl, rfl⟩
  · obtain ⟨x, rfl, -⟩ := h; exact ⟨rfl, by simp [vw, kw, Value.category]⟩
theorem zfor_i {s : Sg} {k : Nat} {v : Value} {f : Value → Rs} {r : List Value × Sg} (h : zfor zC s k v f = some r) : argk s k v ∧ f v = some r := by
  rcases k with _ | _ | _ | _ | k
  · obtain ⟨x, rfl, h⟩ := zint_i h; exact ⟨⟨x, rfl⟩, h⟩
  · obtain ⟨x, rfl, h⟩ := zlon_i h; exact ⟨⟨x, rfl⟩, h⟩
  · obtain ⟨x, rfl, h⟩ := zref_i h; exact ⟨⟨x, rfl⟩, h⟩
  · obtain ⟨x, rfl, h⟩ := zref_i h
    obtain ⟨hb, h⟩ := bif_i h
    rw [Bool.and_eq_true] at hb
    exact ⟨⟨x, rfl, Nat.le_of_ble_eq_true hb.1, Nat.le_of_ble_eq_true hb.2⟩, h⟩
  · obtain ⟨x, rfl, h⟩ := zref_i h
    obtain ⟨h1, h2, h⟩ := zobj_i h
    exact ⟨⟨x, rfl, h1, h2⟩, h⟩
/-- arguments fit their kinds, one by one -/
def argks (s : Sg) : List Nat → List Value → Prop
  | [], [] => True
  | k :: ks, v :: vs => argk s k v ∧ argks s ks vs
  | _, _ => False
theorem zpop_i {s : Sg} : ∀ {fs : List Nat} {st acc : List Value} {f : List Value → List Value → Rs} {r : List Value × Sg}, zpop zC s fs st acc f = some r → ∃ as t, st = as ++ t ∧ argks s fs as ∧ f (as.reverse ++ acc) t = some r
  | [], st, acc, f, r, h => ⟨[], st, rfl, trivial, h⟩
  | k :: fs, [], acc, f, r, h => by cases h
  | k :: fs, v :: st, acc, f, r, h => by
    have h : zfor zC s k v (fun u => zpop zC s fs st (u :: acc) f) = some r := h
    obtain ⟨hv, h⟩ := zfor_i h
    obtain ⟨as, t, h1, h2, h4⟩ := zpop_i (acc := v :: acc) h
    refine ⟨v :: as, t, by rw [h1]; rfl, ⟨hv, h2⟩, ?_⟩
    simpa using h4
theorem argks_L {s : Sg} : ∀ {fs : List Nat} {as : List Value}, argks s fs as → (∀ v ∈ as, isL v = true) ∧ as.map vw = fs.map kw
  | [], [], _ => ⟨fun v h => (by cases h), rfl⟩
  | k :: ks, v :: vs, h => by
    obtain ⟨h1, h2⟩ := argk_L h.1
    obtain ⟨h3, h4⟩ := argks_L h.2
    refine ⟨fun w hw => ?_, by rw [List.map_cons, List.map_cons, h2, h4]⟩
    rcases List.mem_cons.mp hw with rfl | hw
    · exact h1
    · exact h3 w hw
  | [], _ :: _, h => h.elim
  | _ :: _, [], h => h.elim
theorem zlay_len : ∀ (as : List Value), (∀ v ∈ as, isL v = true) → (zlay as).length = (as.map vw).sum
  | [], _ => rfl
  | v :: r, h => by
    have ih := zlay_len r (fun w hw => h w (List.mem_cons_of_mem _ hw))
    have hv := h v List.mem_cons_self
    cases v with
    | int x => simp [zlay, vw, Value.category, ih]; omega
    | ref x => simp [zlay, vw, Value.category, ih]; omega
    | long x => simp [zlay, vw, Value.category, ih]; omega
    | _ => cases hv
theorem znew_i {s : Sg} {c n : Nat} {f : Nat → Sg → Rs} {r : List Value × Sg} (h : znew zC zN s c n f = some r) : s.1.2.1 = 0 ∧ zC s.1.1 = c ∧ zN s.1.1 = n ∧ c < 99 ∧ f s.1.1 ((s.1.1 + 1, s.1.2.1, s.1.2.2 + n), va_up s.2.1 s.1.1 (fun _ => none), va_up s.2.2.1 s.1.1 (fun _ => none), va_up s.2.2.2.1 s.1.1 (fun _ => 0), va_up s.2.2.2.2 s.1.1 (fun _ => 0)) = some r := by
  obtain ⟨h1, h2⟩ := bif_i h
  simp only [Bool.and_eq_true] at h1
  exact ⟨Nat.eq_of_beq_eq_true h1.1, Nat.eq_of_beq_eq_true h1.2.1, Nat.eq_of_beq_eq_true h1.2.2.1, Nat.blt_eq.mp h1.2.2.2, h2⟩
theorem zgf_i {s : Sg} {v : Value} {a : List Nat} {f : Value → Rs} {r : List Value × Sg} (h : zgf zC s v a f = some r) : ∃ kd c j t q, a = kd :: c :: j :: t ∧ v = .ref q ∧ q < s.1.1 ∧ zC q = c ∧ (match kd with
    | 0 => f (.int (s.2.2.2.1 q j))
    | 1 => f (.long (s.2.2.2.2 q j))
    | 2 => f (zr (s.2.1 q j))
    | 3 => f (zr (s.2.2.1 q j))
    | _ => f (.int (s.2.2.2.1 q j))) = some r := by
  rcases a with _ | ⟨kd, _ | ⟨c, _ | ⟨j, t⟩⟩⟩ <;> try cases h; done
  obtain ⟨q, rfl, h⟩ := zref_i h
  obtain ⟨h1, h2, h3⟩ := zobj_i h
  exact ⟨kd, c, j, t, q, rfl, rfl, h1, h2, h3⟩
theorem zpf_i {s : Sg} {v w : Value} {a : List Nat} {f : Sg → Rs} {r : List Value × Sg} (h : zpf zC s v w a f = some r) : ∃ kd c j t q, a = kd :: c :: j :: t ∧ v = .ref q ∧ q < s.1.1 ∧ zC q = c ∧ (match kd with
    | 0 => zint w fun x => f (s.1, s.2.1, s.2.2.1, z2 s.2.2.2.1 q j x, s.2.2.2.2)
    | 1 => zlon w fun x => f (s.1, s.2.1, s.2.2.1, s.2.2.2.1, z2 s.2.2.2.2 q j x)
    | 2 => znul w fun x => f (s.1, z2 s.2.1 q j x, s.2.2.1, s.2.2.2.1, s.2.2.2.2)
    | 3 => znul w fun x => f (s.1, s.2.1, z2 s.2.2.1 q j x, s.2.2.2.1, s.2.2.2.2)
    | _ => zint w fun x => zboo x (f (s.1, s.2.1, s.2.2.1, z2 s.2.2.2.1 q j x, s.2.2.2.2))) = some r := by
  rcases a with _ | ⟨kd, _ | ⟨c, _ | ⟨j, t⟩⟩⟩ <;> try cases h; done
  obtain ⟨q, rfl, h⟩ := zref_i h
  obtain ⟨h1, h2, h3⟩ := zobj_i h
  exact ⟨kd, c, j, t, q, rfl, rfl, h1, h2, h3⟩
theorem zsw_i {x : Int32} {d : Nat} : ∀ {ts : List Nat} {i : Nat} {f : Nat → Rs} {r : List Value × Sg}, zsw x d ts i f = some r → (∃ k t, ts[k]? = some t ∧ x = nI (i + k) ∧ f t = some r) ∨ ((∀ k, k < ts.length → x ≠ nI (i + k)) ∧ f d = some r)
  | [], i, f, r, h => Or.inr ⟨fun k hk => absurd hk (Nat.not_lt_zero k), h⟩
  | t :: ts, i, f, r, h => by
    unfold zsw at h
    by_cases hx : x = nI i
    · rw [if_pos hx] at h
      exact Or.inl ⟨0, t, rfl, hx, h⟩
    · rw [if_neg hx] at h
      rcases zsw_i h with ⟨k, u, h1, h2, h3⟩ | ⟨h1, h2⟩
      · exact Or.inl ⟨k + 1, u, by simpa using h1, by rw [h2]; congr 1; omega, h3⟩
      · refine Or.inr ⟨fun k hk => ?_, h2⟩
        cases k with
        | zero => exact hx
        | succ k =>
          have h3 := h1 k (by simpa using hk)
          have e : i + (k + 1) = i + 1 + k := by omega
          rw [e]
          exact h3
