-- COUNTERS only grow
def Up (σ : Sg) (g : Kn → Rs) : Prop := (∃ n ys t τ, leS σ τ ∧ ∀ k, g k = k n ys t τ) ∨ (∃ o : Rs, (∀ r, o = some r → leS σ r.2) ∧ ∀ k, g k = o)
theorem Up.k {σ : Sg} (n : Nat) (ys t : List Value) (τ : Sg) (h : leS σ τ) : Up σ (fun k => k n ys t τ) := Or.inl ⟨n, ys, t, τ, h, fun _ => rfl⟩
theorem Up.n {σ : Sg} : Up σ (fun _ => none) := Or.inr ⟨none, fun r h => (by cases h), fun _ => rfl⟩
theorem Up.rt {σ : Sg} {o : Rs} (h : ∀ r, o = some r → leS σ r.2) : Up σ (fun _ => o) := Or.inr ⟨o, h, fun _ => rfl⟩
theorem Up.ite {σ : Sg} {c : Prop} (i : Decidable c) {f g : Kn → Rs} (hf : Up σ f) (hg : Up σ g) : Up σ (fun k => @ite _ c i (f k) (g k)) := by
  by_cases h : c
  · simpa [h] using hf
  · simpa [h] using hg
theorem Up.bif {σ : Sg} {c : Bool} {f g : Kn → Rs} (hf : Up σ f) (hg : Up σ g) : Up σ (fun k => cond c (f k) (g k)) := by
  cases c
  · exact hg
  · exact hf
theorem Up.ref {σ : Sg} {v : Value} {f : Nat → Kn → Rs} (h : ∀ q, Up σ (f q)) : Up σ (fun k => zref v (fun q => f q k)) := by
  cases v <;> first | exact h _ | exact Up.n
theorem Up.nul {σ : Sg} {v : Value} {f : Option Nat → Kn → Rs} (h : ∀ q, Up σ (f q)) : Up σ (fun k => znul v (fun q => f q k)) := by
  cases v <;> first | exact h _ | exact Up.n
theorem Up.nuk {σ : Sg} {v : Value} {f : Option Nat → Kn → Rs} (h : ∀ q, Up σ (f q)) : Up σ (fun k => znuk v (fun q => f q k)) := by
  cases v <;> first | exact Up.bif (h _) (Up.n) | exact h _ | exact Up.n
theorem Up.int {σ : Sg} {v : Value} {f : Int32 → Kn → Rs} (h : ∀ q, Up σ (f q)) : Up σ (fun k => zint v (fun q => f q k)) := by
  cases v <;> first | exact h _ | exact Up.n
theorem Up.lon {σ : Sg} {v : Value} {f : Int64 → Kn → Rs} (h : ∀ q, Up σ (f q)) : Up σ (fun k => zlon v (fun q => f q k)) := by
  cases v <;> first | exact h _ | exact Up.n
theorem Up.p1 {σ : Sg} {st : List Value} {f : Value → List Value → Kn → Rs} (h : ∀ v r, Up σ (f v r)) : Up σ (fun k => zp1 st (fun v r => f v r k)) := by
  cases st <;> first | exact h _ _ | exact Up.n
theorem Up.p2 {σ : Sg} {st : List Value} {f : Value → Value → List Value → Kn → Rs} (h : ∀ v w r, Up σ (f v w r)) : Up σ (fun k => zp2 st (fun v w r => f v w r k)) := by
  rcases st with _ | ⟨a, _ | ⟨b, r⟩⟩ <;> first | exact h _ _ _ | exact Up.n
theorem Up.p3 {σ : Sg} {st : List Value} {f : Value → Value → Value → List Value → Kn → Rs} (h : ∀ u v w r, Up σ (f u v w r)) : Up σ (fun k => zp3 st (fun u v w r => f u v w r k)) := by
  rcases st with _ | ⟨a, _ | ⟨b, _ | ⟨c, r⟩⟩⟩ <;> first | exact h _ _ _ _ | exact Up.n
theorem Up.i1 {σ : Sg} {st : List Value} {f : Int32 → List Value → Kn → Rs} (h : ∀ v r, Up σ (f v r)) : Up σ (fun k => zi1 st (fun v r => f v r k)) := Up.p1 fun _ r => Up.int fun x => h x r
theorem Up.i2 {σ : Sg} {st : List Value} {f : Int32 → Int32 → List Value → Kn → Rs} (h : ∀ v w r, Up σ (f v w r)) : Up σ (fun k => zi2 st (fun v w r => f v w r k)) := Up.p2 fun _ _ r => Up.int fun x => Up.int fun y => h x y r
theorem Up.l2 {σ : Sg} {st : List Value} {f : Int64 → Int64 → List Value → Kn → Rs} (h : ∀ v w r, Up σ (f v w r)) : Up σ (fun k => zl2 st (fun v w r => f v w r k)) := Up.p2 fun _ _ r => Up.lon fun x => Up.lon fun y => h x y r
theorem Up.li {σ : Sg} {st : List Value} {f : Int64 → Int32 → List Value → Kn → Rs} (h : ∀ v w r, Up σ (f v w r)) : Up σ (fun k => zli st (fun v w r => f v w r k)) := Up.p2 fun _ _ r => Up.lon fun x => Up.int fun y => h x y r
theorem Up.a1 {σ : Sg} {a : List Nat} {f : Nat → Kn → Rs} (h : ∀ j, Up σ (f j)) : Up σ (fun k => za1 a (fun j => f j k)) := by
  rcases a with _ | ⟨a, _ | ⟨b, r⟩⟩ <;> first | exact h _ | exact Up.n
theorem Up.ld {σ : Sg} {xs : List Value} {j : Nat} {f : Value → Kn → Rs} (h : ∀ v, Up σ (f v)) : Up σ (fun k => zld xs j (fun v => f v k)) := by
  unfold zld
  cases xs[j]? <;> first | exact h _ | exact Up.n
theorem Up.st {σ : Sg} {xs : List Value} {j : Nat} {v : Value} {f : List Value → Kn → Rs} (h : ∀ v, Up σ (f v)) : Up σ (fun k => zst xs j v (fun ys => f ys k)) := Up.bif (h _) (Up.n)
theorem Up.st2 {σ : Sg} {xs : List Value} {j : Nat} {v : Value} {f : List Value → Kn → Rs} (h : ∀ v, Up σ (f v)) : Up σ (fun k => zst2 xs j v (fun ys => f ys k)) := Up.bif (h _) (Up.n)
theorem Up.sw {σ : Sg} {x : Int32} {d : Nat} {ts : List Nat} : ∀ {i : Nat} {f : Nat → Kn → Rs}, (∀ j, Up σ (f j)) → Up σ (fun k => zsw x d ts i (fun j => f j k)) := by
  induction ts with
  | nil => intro i f h; exact h d
  | cons t ts ih => intro i f h; exact Up.ite _ (h t) (ih h)
theorem Up.cI {σ : Sg} {o : Rs} {f : Int32 → Sg → Kn → Rs} (ho : ∀ q, o = some q → leS σ q.2) (h : ∀ v r, leS σ r → Up σ (f v r)) : Up σ (fun k => zcI o (fun v r => f v r k)) := by
  rcases o with _ | ⟨_ | ⟨(_ | _ | _ | _ | _ | _ | _), _ | _⟩, _⟩ <;> first | exact h _ _ (ho _ rfl) | exact Up.n
theorem Up.cL {σ : Sg} {o : Rs} {f : Int64 → Sg → Kn → Rs} (ho : ∀ q, o = some q → leS σ q.2) (h : ∀ v r, leS σ r → Up σ (f v r)) : Up σ (fun k => zcL o (fun v r => f v r k)) := by
  rcases o with _ | ⟨_ | ⟨(_ | _ | _ | _ | _ | _ | _), _ | _⟩, _⟩ <;> first | exact h _ _ (ho _ rfl) | exact Up.n
theorem Up.cR {σ : Sg} {o : Rs} {f : Nat → Sg → Kn → Rs} (ho : ∀ q, o = some q → leS σ q.2) (h : ∀ v r, leS σ r → Up σ (f v r)) : Up σ (fun k => zcR o (fun v r => f v r k)) := by
  rcases o with _ | ⟨_ | ⟨(_ | _ | _ | _ | _ | _ | _), _ | _⟩, _⟩ <;> first | exact h _ _ (ho _ rfl) | exact Up.n
theorem Up.cV {σ : Sg} {o : Rs} {f : Sg → Kn → Rs} (ho : ∀ q, o = some q → leS σ q.2) (h : ∀ r, leS σ r → Up σ (f r)) : Up σ (fun k => zcV o (fun r => f r k)) := by
  rcases o with _ | ⟨_ | _, _⟩ <;> first | exact h _ (ho _ rfl) | exact Up.n
theorem Up.obj {σ : Sg} {s : Sg} {q c : Nat} {f : Kn → Rs} (h : Up σ f) : Up σ (fun k => zobj zC s q c (f k)) := Up.bif h (Up.n)
theorem Up.fo {σ : Sg} {s : Sg} {k : Nat} {v : Value} {f : Value → Kn → Rs} (h : ∀ u, Up σ (f u)) : Up σ (fun c => zfor zC s k v (fun u => f u c)) := by
  rcases k with _ | _ | _ | _ | k
  · exact Up.int fun _ => h _
  · exact Up.lon fun _ => h _
  · exact Up.ref fun _ => h _
  · exact Up.ref fun _ => Up.bif (h _) (Up.n)
  · exact Up.ref fun _ => Up.obj (h _)
theorem Up.pop {σ : Sg} {s : Sg} {f : List Value → List Value → Kn → Rs} (h : ∀ v r, Up σ (f v r)) : ∀ (fs : List Nat) (st acc : List Value), Up σ (fun k => zpop zC s fs st acc (fun v r => f v r k))
  | [], _, _ => h _ _
  | _ :: _, [], _ => Up.n
  | k0 :: fs, v :: r, acc => Up.fo (k := k0) (v := v) (f := fun u c => zpop zC s fs r (u :: acc) (fun v r => f v r c)) fun u => Up.pop h fs r (u :: acc)
theorem Up.idx {σ : Sg} {i : Int32} {n : Nat} {f : Nat → Kn → Rs} (h : ∀ j, Up σ (f j)) : Up σ (fun k => zidx i n (fun j => f j k)) := Up.ite _ (h _) (Up.n)
theorem Up.arr {σ : Sg} {s : Sg} {q c : Nat} {i : Int32} {f : Nat → Kn → Rs} (h : ∀ j, Up σ (f j)) : Up σ (fun k => zarr zC zN s q c i (fun j => f j k)) := Up.obj (Up.idx h)
theorem Up.boo {σ : Sg} {x : Int32} {f : Kn → Rs} (h : Up σ f) : Up σ (fun k => zboo x (f k)) := Up.ite _ h (Up.n)
theorem Up.gf {σ : Sg} {s : Sg} {v : Value} {a : List Nat} {f : Value → Kn → Rs} (h : ∀ j, Up σ (f j)) : Up σ (fun k => zgf zC s v a (fun j => f j k)) := by
  rcases a with _ | ⟨kd, _ | ⟨c, _ | ⟨j, r⟩⟩⟩ <;> try exact Up.n
  refine Up.ref fun q => Up.obj ?_
  rcases kd with _ | _ | _ | _ | _ <;> exact h _
theorem Up.pf {σ : Sg} {s : Sg} {v w : Value} {a : List Nat} {f : Sg → Kn → Rs} (h : ∀ j, j.1 = s.1 → Up σ (f j)) : Up σ (fun k => zpf zC s v w a (fun j => f j k)) := by
  rcases a with _ | ⟨kd, _ | ⟨c, _ | ⟨j, r⟩⟩⟩ <;> try exact Up.n
  refine Up.ref fun q => Up.obj ?_
  rcases kd with _ | _ | _ | _ | _
  · exact Up.int fun _ => h _ rfl
  · exact Up.lon fun _ => h _ rfl
  · exact Up.nul fun _ => h _ rfl
  · exact Up.nul fun _ => h _ rfl
  · exact Up.int fun _ => Up.boo (h _ rfl)
theorem leS.nw {s : Sg} {c n : Nat} (h : zC s.1.1 = c) (hc : c < 99) : leS s (nwS s n) := ⟨by show s.1.1 + s.1.2.1 ≤ s.1.1 + 1 + s.1.2.1; omega, Nat.le_add_right _ _, fun _ => nc_of h hc⟩
theorem Up.new {σ : Sg} {s : Sg} {c n : Nat} {f : Nat → Sg → Kn → Rs} (hs : leS σ s) (h : ∀ q t, leS σ t → Up σ (f q t)) : Up σ (fun k => znew zC zN s c n (fun q s => f q s k)) := by
  unfold znew
  cases hb : Nat.beq s.1.2.1 0 && (Nat.beq (zC s.1.1) c && (Nat.beq (zN s.1.1) n && Nat.blt c 99)) with
  | false => exact Up.n
  | true =>
    simp only [Bool.and_eq_true] at hb
    exact h _ _ (hs.tr (leS.nw (n := n) (Nat.eq_of_beq_eq_true hb.2.1) (Nat.blt_eq.mp hb.2.2.2)))
theorem Up.row {σ : Sg} {q n : Nat} {f : Sg → Kn → Rs} (h : ∀ s, leS σ s → Up σ (f s)) : ∀ (m j : Nat) (s : Sg), leS σ s → Up σ (fun k => zrow zC zN q n m j s (fun s => f s k))
  | 0, _, _, hs => h _ hs
  | m + 1, j, _, hs => Up.new hs fun _ t ht => Up.row h m (j + 1) _ ht
theorem Up.cal {s : Sg} {call : Nat → List Value → Sg → Rs} (hcl : ∀ mi xs q, call mi xs s = some q → leS s q.2) {a : List Nat} {n : Nat} {xs st : List Value} : Up s (zcal zC zN call mL a n xs st s) := by
  unfold zcal
  rcases a with _ | ⟨kd, _ | ⟨mi, _ | ⟨na, r⟩⟩⟩ <;> try exact Up.n
  refine Up.pop (fun as r => Up.bif ?_ (Up.n)) _ _ _
  rcases kd with _ | _ | _ | _ | _ | _ | _ | _ | _ | _
  · exact Up.cV (hcl _ _) fun _ z => Up.k _ _ _ _ z
  · exact Up.cI (hcl _ _) fun _ _ z => Up.k _ _ _ _ z
  · exact Up.cL (hcl _ _) fun _ _ z => Up.k _ _ _ _ z
  · exact Up.cR (hcl _ _) fun _ _ z => Up.k _ _ _ _ z
  · rcases as with _ | ⟨v, _ | ⟨w, _ | ⟨x, _ | ⟨y, _ | ⟨z, _ | _⟩⟩⟩⟩⟩ <;> try exact Up.n
    exact Up.ref fun _ => Up.int fun _ => Up.ref fun _ => Up.int fun _ => Up.int fun _ => Up.obj (Up.obj (Up.ite _ (Up.k _ _ _ _ (leS.sm rfl)) (Up.n)))
  · rcases as with _ | ⟨v, _ | _⟩ <;> try exact Up.n
    exact Up.lon fun _ => Up.k _ _ _ _ (leS.sm rfl)
  · rcases as with _ | ⟨v, _ | _⟩ <;> try exact Up.n
    exact Up.ref fun _ => Up.bif (Up.k _ _ _ _ (leS.sm rfl)) (Up.n)
  · rcases as with _ | ⟨v, _ | _⟩ <;> try exact Up.n
    exact Up.k _ _ _ _ (leS.sm rfl)
  · rcases as with _ | ⟨v, _ | ⟨w, _ | ⟨x, _ | ⟨y, _ | _⟩⟩⟩⟩ <;> try exact Up.n
    refine Up.ref fun q => Up.int fun _ => Up.int fun _ => Up.ref fun _ => Up.obj (Up.obj ?_)
    cases s.2.1 q 2 with
    | none => exact Up.n
    | some j => exact Up.obj (Up.ite _ (Up.k _ _ _ _ ⟨by show s.1.1 + s.1.2.1 ≤ s.1.1 + (s.1.2.1 + 1); omega, Nat.le_add_right _ _, fun h => h⟩) (Up.cI (hcl _ _) fun _ _ z => Up.obj (Up.k _ _ _ _ z)))
  · exact Up.n
set_option maxHeartbeats 2000000 in
theorem stp_up (ρ : Nat × (Nat → Int32)) (call : Nat → List Value → Sg → Rs) (op : Op) (xs st : List Value) (s : Sg) (hcl : ∀ mi xs q, call mi xs s = some q → leS s q.2) : Up s (stp zC zN ρ call mL op xs st s) := by
  obtain ⟨i, n, a, v⟩ := op
  cases i <;> try exact Up.n
  case iconst => exact Up.k _ _ _ _ (leS.sm rfl)
  case bipush => exact Up.k _ _ _ _ (leS.sm rfl)
  case sipush => exact Up.k _ _ _ _ (leS.sm rfl)
  case ldc => cases a <;> first | exact Up.n | exact Up.bif (Up.k _ _ _ _ (leS.sm rfl)) (Up.k _ _ _ _ (leS.sm rfl))
  case ldc_w => cases a <;> first | exact Up.n | exact Up.bif (Up.k _ _ _ _ (leS.sm rfl)) (Up.k _ _ _ _ (leS.sm rfl))
  case lconst => cases a <;> first | exact Up.n | exact Up.k _ _ _ _ (leS.sm rfl)
  case ldc2_w => cases a <;> first | exact Up.n | exact Up.k _ _ _ _ (leS.sm rfl)
  case getstatic => cases a <;> first | exact Up.n | exact Up.k _ _ _ _ (leS.sm rfl)
  case aconst_null => exact Up.k _ _ _ _ (leS.sm rfl)
  case iload => exact Up.a1 fun _ => Up.ld fun _ => Up.int fun _ => Up.k _ _ _ _ (leS.sm rfl)
  case iload_n => exact Up.a1 fun _ => Up.ld fun _ => Up.int fun _ => Up.k _ _ _ _ (leS.sm rfl)
  case lload => exact Up.a1 fun _ => Up.ld fun _ => Up.lon fun _ => Up.k _ _ _ _ (leS.sm rfl)
  case lload_n => exact Up.a1 fun _ => Up.ld fun _ => Up.lon fun _ => Up.k _ _ _ _ (leS.sm rfl)
  case aload => exact Up.a1 fun _ => Up.ld fun _ => Up.ref fun _ => Up.k _ _ _ _ (leS.sm rfl)
  case aload_n => exact Up.a1 fun _ => Up.ld fun _ => Up.ref fun _ => Up.k _ _ _ _ (leS.sm rfl)
  case istore => exact Up.a1 fun _ => Up.i1 fun _ _ => Up.st fun _ => Up.k _ _ _ _ (leS.sm rfl)
  case istore_n => exact Up.a1 fun _ => Up.i1 fun _ _ => Up.st fun _ => Up.k _ _ _ _ (leS.sm rfl)
  case lstore => exact Up.a1 fun _ => Up.p1 fun _ _ => Up.lon fun _ => Up.st2 fun _ => Up.k _ _ _ _ (leS.sm rfl)
  case lstore_n => exact Up.a1 fun _ => Up.p1 fun _ _ => Up.lon fun _ => Up.st2 fun _ => Up.k _ _ _ _ (leS.sm rfl)
  case astore => exact Up.a1 fun _ => Up.p1 fun _ _ => Up.ref fun _ => Up.st fun _ => Up.k _ _ _ _ (leS.sm rfl)
  case astore_n => exact Up.a1 fun _ => Up.p1 fun _ _ => Up.ref fun _ => Up.st fun _ => Up.k _ _ _ _ (leS.sm rfl)
  case iinc => exact Up.a1 fun _ => Up.ld fun _ => Up.int fun _ => Up.st fun _ => Up.k _ _ _ _ (leS.sm rfl)
  case iadd => exact Up.i2 fun _ _ _ => Up.k _ _ _ _ (leS.sm rfl)
  case isub => exact Up.i2 fun _ _ _ => Up.k _ _ _ _ (leS.sm rfl)
  case imul => exact Up.i2 fun _ _ _ => Up.k _ _ _ _ (leS.sm rfl)
  case iand => exact Up.i2 fun _ _ _ => Up.k _ _ _ _ (leS.sm rfl)
  case ior => exact Up.i2 fun _ _ _ => Up.k _ _ _ _ (leS.sm rfl)
  case ixor => exact Up.i2 fun _ _ _ => Up.k _ _ _ _ (leS.sm rfl)
  case ishl => exact Up.i2 fun _ _ _ => Up.k _ _ _ _ (leS.sm rfl)
  case ishr => exact Up.i2 fun _ _ _ => Up.k _ _ _ _ (leS.sm rfl)
  case iushr => exact Up.i2 fun _ _ _ => Up.k _ _ _ _ (leS.sm rfl)
  case ineg => exact Up.i1 fun _ _ => Up.k _ _ _ _ (leS.sm rfl)
  case ladd => exact Up.l2 fun _ _ _ => Up.k _ _ _ _ (leS.sm rfl)
  case lmul => exact Up.l2 fun _ _ _ => Up.k _ _ _ _ (leS.sm rfl)
  case land => exact Up.l2 fun _ _ _ => Up.k _ _ _ _ (leS.sm rfl)
  case lor => exact Up.l2 fun _ _ _ => Up.k _ _ _ _ (leS.sm rfl)
  case lshl => exact Up.li fun _ _ _ => Up.k _ _ _ _ (leS.sm rfl)
  case lshr => exact Up.li fun _ _ _ => Up.k _ _ _ _ (leS.sm rfl)
  case lushr => exact Up.li fun _ _ _ => Up.k _ _ _ _ (leS.sm rfl)
  case i2l => exact Up.i1 fun _ _ => Up.k _ _ _ _ (leS.sm rfl)
  case l2i => exact Up.p1 fun _ _ => Up.lon fun _ => Up.k _ _ _ _ (leS.sm rfl)
  case i2b => exact Up.i1 fun _ _ => Up.k _ _ _ _ (leS.sm rfl)
  case lcmp => exact Up.l2 fun _ _ _ => Up.k _ _ _ _ (leS.sm rfl)
  case goto => exact Up.a1 fun _ => Up.k _ _ _ _ (leS.sm rfl)
  case ifCond c _ => cases c <;> exact Up.a1 fun _ => Up.i1 fun _ _ => Up.ite _ (Up.k _ _ _ _ (leS.sm rfl)) (Up.k _ _ _ _ (leS.sm rfl))
  case if_icmp c _ => cases c <;> exact Up.a1 fun _ => Up.i2 fun _ _ _ => Up.ite _ (Up.k _ _ _ _ (leS.sm rfl)) (Up.k _ _ _ _ (leS.sm rfl))
  case if_acmp c _ => cases c <;> exact Up.a1 fun _ => Up.p2 fun _ _ _ => Up.nuk fun _ => Up.nuk fun _ => Up.ite _ (Up.k _ _ _ _ (leS.sm rfl)) (Up.k _ _ _ _ (leS.sm rfl))
  case ifnull => exact Up.a1 fun _ => Up.p1 fun _ _ => Up.nul fun _ => Up.ite _ (Up.k _ _ _ _ (leS.sm rfl)) (Up.k _ _ _ _ (leS.sm rfl))
  case ifnonnull => exact Up.a1 fun _ => Up.p1 fun _ _ => Up.nul fun _ => Up.ite _ (Up.k _ _ _ _ (leS.sm rfl)) (Up.k _ _ _ _ (leS.sm rfl))
  case tableswitch => cases a <;> first | exact Up.n | exact Up.i1 fun _ _ => Up.sw fun _ => Up.k _ _ _ _ (leS.sm rfl)
  case getfield => exact Up.p1 fun _ _ => Up.gf fun _ => Up.k _ _ _ _ (leS.sm rfl)
  case putfield => exact Up.p2 fun _ _ _ => Up.pf fun _ z => Up.k _ _ _ _ (leS.sm z)
  case iaload =>
    refine Up.p2 fun _ _ _ => Up.ref fun _ => Up.int fun _ => ?_
    cases a
    · exact Up.arr fun _ => Up.k _ _ _ _ (leS.sm rfl)
    · exact Up.bif (Up.idx fun _ => Up.k _ _ _ _ (leS.sm rfl)) Up.n
  case laload => exact Up.p2 fun _ _ _ => Up.ref fun _ => Up.int fun _ => Up.arr fun _ => Up.k _ _ _ _ (leS.sm rfl)
  case baload => exact Up.p2 fun _ _ _ => Up.ref fun _ => Up.int fun _ => Up.arr fun _ => Up.k _ _ _ _ (leS.sm rfl)
  case aaload =>
    refine Up.p2 fun _ _ _ => Up.ref fun _ => Up.int fun _ => ?_
    dsimp only
    split <;> exact Up.arr fun _ => Up.k _ _ _ _ (leS.sm rfl)
  case iastore => exact Up.p3 fun _ _ _ _ => Up.ref fun _ => Up.int fun _ => Up.int fun _ => Up.arr fun _ => Up.k _ _ _ _ (leS.sm rfl)
  case bastore => exact Up.p3 fun _ _ _ _ => Up.ref fun _ => Up.int fun _ => Up.int fun _ => Up.arr fun _ => Up.k _ _ _ _ (leS.sm rfl)
  case lastore => exact Up.p3 fun _ _ _ _ => Up.ref fun _ => Up.int fun _ => Up.lon fun _ => Up.arr fun _ => Up.k _ _ _ _ (leS.sm rfl)
  case aastore =>
    refine Up.p3 fun _ _ _ _ => Up.ref fun _ => Up.int fun _ => Up.ref fun _ => ?_
    dsimp only
    split
    · exact Up.obj (Up.arr fun _ => Up.k _ _ _ _ (leS.sm rfl))
    · exact Up.bif (Up.arr fun _ => Up.k _ _ _ _ (leS.sm rfl)) Up.n
  case arraylength =>
    refine Up.p1 fun _ _ => Up.ref fun _ => ?_
    cases a <;> exact Up.bif (Up.k _ _ _ _ (leS.sm rfl)) Up.n
  case dup => exact Up.p1 fun v r => by cases v <;> first | exact Up.n | exact Up.k _ _ _ _ (leS.sm rfl)
  case dup2 => exact Up.p2 fun _ _ _ => Up.ref fun _ => Up.int fun _ => Up.k _ _ _ _ (leS.sm rfl)
  case pop => exact Up.i1 fun _ _ => Up.k _ _ _ _ (leS.sm rfl)
  case new => rcases a with _ | ⟨c, _ | ⟨d, r⟩⟩ <;> first | exact Up.n | exact Up.new (leS.rf s) fun _ _ z => Up.k _ _ _ _ z
  case newarray => cases a <;> first | exact Up.n | exact Up.i1 fun _ _ => Up.ite _ (Up.new (leS.rf s) fun _ _ z => Up.k _ _ _ _ z) Up.n
  case anewarray => cases a <;> first | exact Up.n | exact Up.i1 fun _ _ => Up.ite _ (Up.new (leS.rf s) fun _ _ z => Up.k _ _ _ _ z) Up.n
  case multianewarray => exact Up.i2 fun _ _ _ => Up.ite _ (Up.new (leS.rf s) fun _ _ z => Up.row (fun _ y => Up.k _ _ _ _ y) _ _ _ z) Up.n
  case invokevirtual => exact Up.cal hcl
  case invokestatic => exact Up.cal hcl
  case invokespecial => exact Up.cal hcl
  case ireturn =>
    refine Up.rt fun q h => ?_
    try dsimp only at h
    split at h
    case h_2 => cases h
    split at h
    · cases h; exact leS.rf s
    · obtain ⟨-, h⟩ := ite_i h
      cases h
      exact leS.rf s
  case lreturn =>
    refine Up.rt fun q h => ?_
    try dsimp only at h
    split at h
    case h_2 => cases h
    cases h
    exact leS.rf s
  case areturn =>
    refine Up.rt fun q h => ?_
    try dsimp only at h
    split at h
    case h_2 => cases h
    cases h
    exact leS.rf s
  case return_ =>
    refine Up.rt fun q h => ?_
    try dsimp only at h
    split at h
    case h_2 => cases h
    cases h
    exact leS.rf s
theorem stp_le (ρ : Nat × (Nat → Int32)) (call : Nat → List Value → Sg → Rs) (op : Op) (xs st : List Value) (s : Sg) (hcl : ∀ mi xs q, call mi xs s = some q → leS s q.2) {k : Kn} {r : List Value × Sg} (hk : ∀ n ys t τ, k n ys t τ = some r → leS τ r.2) (h : stp zC zN ρ call mL op xs st s k = some r) : leS s r.2 := by
  rcases stp_up ρ call op xs st s hcl with ⟨n, ys, t, τ, h1, h2⟩ | ⟨o, h1, h2⟩
  · rw [h2] at h
    exact h1.tr (hk _ _ _ _ h)
  · rw [h2] at h
    exact h1 _ h
theorem rn_leS (ρ : Nat × (Nat → Int32)) (call : Nat → List Value → Sg → Rs) (mi : Nat) (hcl : ∀ mi xs s q, call mi xs s = some q → leS s q.2) {r : List Value × Sg} : ∀ (f pc : Nat) (xs st : List Value) (s : Sg), rn ρ call mi f pc xs st s = some r → leS s r.2 := by
  intro f
  induction f with
  | zero => intro pc xs st s h; cases h
  | succ f ih =>
    intro pc xs st s h
    rw [rn_succ] at h
    exact stp_le ρ call _ _ _ s (fun mi xs q hq => hcl mi xs s q hq) (fun n ys t τ hh => ih n _ t τ hh) h
theorem EV_leS (ρ : Nat × (Nat → Int32)) : ∀ (d mi pc : Nat) (xs st : List Value) (s : Sg) {r : List Value × Sg}, EV ρ d mi pc xs st s = some r → leS s r.2
  | 0, _, _, _, _, _, _, h => by cases h
  | d + 1, mi, pc, xs, st, s, r, h => by
    obtain ⟨f, hf⟩ := EV_some.mp h
    exact rn_leS ρ _ mi (fun mi' xs' s' q hq => EV_leS ρ d mi' 0 xs' [] s' hq) f pc xs st s hf
