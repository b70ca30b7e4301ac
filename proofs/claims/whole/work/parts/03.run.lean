-- RUNS: by steps (rn), as a limit (EV), up to the next cut (go)
def kk (mi n : Nat) (ys : List Value) : List Value := match msk mi n with
  | none => ys
  | some ks => kil ks ys
def rn (ρ : Nat × (Nat → Int32)) (call : Nat → List Value → Sg → Rs) (mi : Nat) : Nat → Kn
  | 0 => fun _ _ _ _ => none
  | f + 1 => fun pc xs st s => stp zC zN ρ call mL (tab mi pc) xs st s (fun n ys t τ => rn ρ call mi f n (kk mi n ys) t τ)
theorem rn_succ (ρ : Nat × (Nat → Int32)) (call : Nat → List Value → Sg → Rs) (mi f pc : Nat) (xs st : List Value) (s : Sg) : rn ρ call mi (f + 1) pc xs st s = stp zC zN ρ call mL (tab mi pc) xs st s (fun n ys t τ => rn ρ call mi f n (kk mi n ys) t τ) := rfl
noncomputable def lim {α : Type} (g : Nat → Option α) : Option α := @dite _ (∃ f, (g f).isSome = true) (Classical.propDecidable _) (fun h => g h.choose) (fun _ => none)
noncomputable def EV (ρ : Nat × (Nat → Int32)) : Nat → Nat → Kn
  | 0 => fun _ _ _ _ _ => none
  | d + 1 => fun mi pc xs st s => lim (fun f => rn ρ (fun mi' xs' s' => EV ρ d mi' 0 xs' [] s') mi f pc xs st s)
/-- a thing that goes on in one place at most -/
def Lin (g : Kn → Rs) : Prop := (∃ n ys t τ, ∀ k, g k = k n ys t τ) ∨ (∃ o, ∀ k, g k = o)
theorem Lin.k (n : Nat) (ys t : List Value) (τ : Sg) : Lin (fun k => k n ys t τ) := Or.inl ⟨n, ys, t, τ, fun _ => rfl⟩
theorem Lin.c (o : Rs) : Lin (fun _ => o) := Or.inr ⟨o, fun _ => rfl⟩
theorem Lin.ite {c : Prop} (i : Decidable c) {f g : Kn → Rs} (hf : Lin f) (hg : Lin g) : Lin (fun k => @ite _ c i (f k) (g k)) := by
  by_cases h : c
  · simpa [h] using hf
  · simpa [h] using hg
theorem Lin.bif {c : Bool} {f g : Kn → Rs} (hf : Lin f) (hg : Lin g) : Lin (fun k => cond c (f k) (g k)) := by
  cases c
  · exact hg
  · exact hf
theorem Lin.ref {v : Value} {f : Nat → Kn → Rs} (h : ∀ q, Lin (f q)) : Lin (fun k => zref v (fun q => f q k)) := by
  cases v <;> first | exact h _ | exact Lin.c none
theorem Lin.nul {v : Value} {f : Option Nat → Kn → Rs} (h : ∀ q, Lin (f q)) : Lin (fun k => znul v (fun q => f q k)) := by
  cases v <;> first | exact h _ | exact Lin.c none
theorem Lin.nuk {v : Value} {f : Option Nat → Kn → Rs} (h : ∀ q, Lin (f q)) : Lin (fun k => znuk v (fun q => f q k)) := by
  cases v <;> first | exact Lin.bif (h _) (Lin.c _) | exact h _ | exact Lin.c none
theorem Lin.int {v : Value} {f : Int32 → Kn → Rs} (h : ∀ q, Lin (f q)) : Lin (fun k => zint v (fun q => f q k)) := by
  cases v <;> first | exact h _ | exact Lin.c none
theorem Lin.lon {v : Value} {f : Int64 → Kn → Rs} (h : ∀ q, Lin (f q)) : Lin (fun k => zlon v (fun q => f q k)) := by
  cases v <;> first | exact h _ | exact Lin.c none
theorem Lin.p1 {st : List Value} {f : Value → List Value → Kn → Rs} (h : ∀ v r, Lin (f v r)) : Lin (fun k => zp1 st (fun v r => f v r k)) := by
  cases st <;> first | exact h _ _ | exact Lin.c none
theorem Lin.p2 {st : List Value} {f : Value → Value → List Value → Kn → Rs} (h : ∀ v w r, Lin (f v w r)) : Lin (fun k => zp2 st (fun v w r => f v w r k)) := by
  rcases st with _ | ⟨a, _ | ⟨b, r⟩⟩ <;> first | exact h _ _ _ | exact Lin.c none
theorem Lin.p3 {st : List Value} {f : Value → Value → Value → List Value → Kn → Rs} (h : ∀ u v w r, Lin (f u v w r)) : Lin (fun k => zp3 st (fun u v w r => f u v w r k)) := by
  rcases st with _ | ⟨a, _ | ⟨b, _ | ⟨c, r⟩⟩⟩ <;> first | exact h _ _ _ _ | exact Lin.c none
theorem Lin.i1 {st : List Value} {f : Int32 → List Value → Kn → Rs} (h : ∀ v r, Lin (f v r)) : Lin (fun k => zi1 st (fun v r => f v r k)) := Lin.p1 fun _ r => Lin.int fun x => h x r
theorem Lin.i2 {st : List Value} {f : Int32 → Int32 → List Value → Kn → Rs} (h : ∀ v w r, Lin (f v w r)) : Lin (fun k => zi2 st (fun v w r => f v w r k)) := Lin.p2 fun _ _ r => Lin.int fun x => Lin.int fun y => h x y r
theorem Lin.l2 {st : List Value} {f : Int64 → Int64 → List Value → Kn → Rs} (h : ∀ v w r, Lin (f v w r)) : Lin (fun k => zl2 st (fun v w r => f v w r k)) := Lin.p2 fun _ _ r => Lin.lon fun x => Lin.lon fun y => h x y r
theorem Lin.li {st : List Value} {f : Int64 → Int32 → List Value → Kn → Rs} (h : ∀ v w r, Lin (f v w r)) : Lin (fun k => zli st (fun v w r => f v w r k)) := Lin.p2 fun _ _ r => Lin.lon fun x => Lin.int fun y => h x y r
theorem Lin.a1 {a : List Nat} {f : Nat → Kn → Rs} (h : ∀ j, Lin (f j)) : Lin (fun k => za1 a (fun j => f j k)) := by
  rcases a with _ | ⟨a, _ | ⟨b, r⟩⟩ <;> first | exact h _ | exact Lin.c none
theorem Lin.ld {xs : List Value} {j : Nat} {f : Value → Kn → Rs} (h : ∀ v, Lin (f v)) : Lin (fun k => zld xs j (fun v => f v k)) := by
  unfold zld
  cases xs[j]? <;> first | exact h _ | exact Lin.c none
theorem Lin.st {xs : List Value} {j : Nat} {v : Value} {f : List Value → Kn → Rs} (h : ∀ v, Lin (f v)) : Lin (fun k => zst xs j v (fun ys => f ys k)) := Lin.bif (h _) (Lin.c _)
theorem Lin.st2 {xs : List Value} {j : Nat} {v : Value} {f : List Value → Kn → Rs} (h : ∀ v, Lin (f v)) : Lin (fun k => zst2 xs j v (fun ys => f ys k)) := Lin.bif (h _) (Lin.c _)
theorem Lin.sw {x : Int32} {d : Nat} {ts : List Nat} : ∀ {i : Nat} {f : Nat → Kn → Rs}, (∀ j, Lin (f j)) → Lin (fun k => zsw x d ts i (fun j => f j k)) := by
  induction ts with
  | nil => intro i f h; exact h d
  | cons t ts ih => intro i f h; exact Lin.ite _ (h t) (ih h)
theorem Lin.cI {o : Rs} {f : Int32 → Sg → Kn → Rs} (h : ∀ v r, Lin (f v r)) : Lin (fun k => zcI o (fun v r => f v r k)) := by
  rcases o with _ | ⟨_ | ⟨(_ | _ | _ | _ | _ | _ | _), _ | _⟩, _⟩ <;> first | exact h _ _ | exact Lin.c none
theorem Lin.cL {o : Rs} {f : Int64 → Sg → Kn → Rs} (h : ∀ v r, Lin (f v r)) : Lin (fun k => zcL o (fun v r => f v r k)) := by
  rcases o with _ | ⟨_ | ⟨(_ | _ | _ | _ | _ | _ | _), _ | _⟩, _⟩ <;> first | exact h _ _ | exact Lin.c none
theorem Lin.cR {o : Rs} {f : Nat → Sg → Kn → Rs} (h : ∀ v r, Lin (f v r)) : Lin (fun k => zcR o (fun v r => f v r k)) := by
  rcases o with _ | ⟨_ | ⟨(_ | _ | _ | _ | _ | _ | _), _ | _⟩, _⟩ <;> first | exact h _ _ | exact Lin.c none
theorem Lin.cV {o : Rs} {f : Sg → Kn → Rs} (h : ∀ r, Lin (f r)) : Lin (fun k => zcV o (fun r => f r k)) := by
  rcases o with _ | ⟨_ | _, _⟩ <;> first | exact h _ | exact Lin.c none
theorem Lin.obj {s : Sg} {q c : Nat} {f : Kn → Rs} (h : Lin f) : Lin (fun k => zobj zC s q c (f k)) := Lin.bif h (Lin.c _)
theorem Lin.fo {s : Sg} {k : Nat} {v : Value} {f : Value → Kn → Rs} (h : ∀ u, Lin (f u)) : Lin (fun c => zfor zC s k v (fun u => f u c)) := by
  rcases k with _ | _ | _ | _ | k
  · exact Lin.int fun _ => h _
  · exact Lin.lon fun _ => h _
  · exact Lin.ref fun _ => h _
  · exact Lin.ref fun _ => Lin.bif (h _) (Lin.c _)
  · exact Lin.ref fun _ => Lin.obj (h _)
theorem Lin.pop {s : Sg} {f : List Value → List Value → Kn → Rs} (h : ∀ v r, Lin (f v r)) : ∀ (fs : List Nat) (st acc : List Value), Lin (fun k => zpop zC s fs st acc (fun v r => f v r k))
  | [], _, _ => h _ _
  | _ :: _, [], _ => Lin.c none
  | k0 :: fs, v :: r, acc => Lin.fo (k := k0) (v := v) (f := fun u c => zpop zC s fs r (u :: acc) (fun v r => f v r c)) fun u => Lin.pop h fs r (u :: acc)
theorem Lin.idx {i : Int32} {n : Nat} {f : Nat → Kn → Rs} (h : ∀ j, Lin (f j)) : Lin (fun k => zidx i n (fun j => f j k)) := Lin.ite _ (h _) (Lin.c _)
theorem Lin.arr {s : Sg} {q c : Nat} {i : Int32} {f : Nat → Kn → Rs} (h : ∀ j, Lin (f j)) : Lin (fun k => zarr zC zN s q c i (fun j => f j k)) := Lin.obj (Lin.idx h)
theorem Lin.boo {x : Int32} {f : Kn → Rs} (h : Lin f) : Lin (fun k => zboo x (f k)) := Lin.ite _ h (Lin.c _)
theorem Lin.gf {s : Sg} {v : Value} {a : List Nat} {f : Value → Kn → Rs} (h : ∀ j, Lin (f j)) : Lin (fun k => zgf zC s v a (fun j => f j k)) := by
  rcases a with _ | ⟨kd, _ | ⟨c, _ | ⟨j, r⟩⟩⟩ <;> try exact Lin.c none
  refine Lin.ref fun q => Lin.obj ?_
  rcases kd with _ | _ | _ | _ | _ <;> exact h _
theorem Lin.pf {s : Sg} {v w : Value} {a : List Nat} {f : Sg → Kn → Rs} (h : ∀ j, Lin (f j)) : Lin (fun k => zpf zC s v w a (fun j => f j k)) := by
  rcases a with _ | ⟨kd, _ | ⟨c, _ | ⟨j, r⟩⟩⟩ <;> try exact Lin.c none
  refine Lin.ref fun q => Lin.obj ?_
  rcases kd with _ | _ | _ | _ | _
  · exact Lin.int fun _ => h _
  · exact Lin.lon fun _ => h _
  · exact Lin.nul fun _ => h _
  · exact Lin.nul fun _ => h _
  · exact Lin.int fun _ => Lin.boo (h _)
theorem Lin.new {s : Sg} {c n : Nat} {f : Nat → Sg → Kn → Rs} (h : ∀ q s, Lin (f q s)) : Lin (fun k => znew zC zN s c n (fun q s => f q s k)) := Lin.bif (h _ _) (Lin.c _)
theorem Lin.row {q n : Nat} {f : Sg → Kn → Rs} (h : ∀ s, Lin (f s)) : ∀ (m j : Nat) (s : Sg), Lin (fun k => zrow zC zN q n m j s (fun s => f s k))
  | 0, _, _ => h _
  | m + 1, j, _ => Lin.new fun _ _ => Lin.row h m (j + 1) _
theorem Lin.cal {call : Nat → List Value → Sg → Rs} {a : List Nat} {n : Nat} {xs st : List Value} {s : Sg} : Lin (zcal zC zN call mL a n xs st s) := by
  unfold zcal
  rcases a with _ | ⟨kd, _ | ⟨mi, _ | ⟨na, r⟩⟩⟩ <;> try exact Lin.c none
  refine Lin.pop (fun as r => Lin.bif ?_ (Lin.c none)) _ _ _
  rcases kd with _ | _ | _ | _ | _ | _ | _ | _ | _ | _
  · exact Lin.cV fun _ => Lin.k _ _ _ _
  · exact Lin.cI fun _ _ => Lin.k _ _ _ _
  · exact Lin.cL fun _ _ => Lin.k _ _ _ _
  · exact Lin.cR fun _ _ => Lin.k _ _ _ _
  · rcases as with _ | ⟨v, _ | ⟨w, _ | ⟨x, _ | ⟨y, _ | ⟨z, _ | _⟩⟩⟩⟩⟩ <;> try exact Lin.c none
    exact Lin.ref fun _ => Lin.int fun _ => Lin.ref fun _ => Lin.int fun _ => Lin.int fun _ => Lin.obj (Lin.obj (Lin.ite _ (Lin.k _ _ _ _) (Lin.c _)))
  · rcases as with _ | ⟨v, _ | _⟩ <;> try exact Lin.c none
    exact Lin.lon fun _ => Lin.k _ _ _ _
  · rcases as with _ | ⟨v, _ | _⟩ <;> try exact Lin.c none
    exact Lin.ref fun _ => Lin.bif (Lin.k _ _ _ _) (Lin.c _)
  · rcases as with _ | ⟨v, _ | _⟩ <;> try exact Lin.c none
    exact Lin.k _ _ _ _
  · rcases as with _ | ⟨v, _ | ⟨w, _ | ⟨x, _ | ⟨y, _ | _⟩⟩⟩⟩ <;> try exact Lin.c none
    refine Lin.ref fun q => Lin.int fun _ => Lin.int fun _ => Lin.ref fun _ => Lin.obj (Lin.obj ?_)
    cases s.2.1 q 2 with
    | none => exact Lin.c none
    | some j => exact Lin.obj (Lin.ite _ (Lin.k _ _ _ _) (Lin.cI fun _ _ => Lin.obj (Lin.k _ _ _ _)))
  · exact Lin.c none
