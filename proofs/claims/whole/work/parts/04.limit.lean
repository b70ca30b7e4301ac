theorem Lin.nil {o : Rs} : Lin (fun _ => o) := Lin.c o
set_option maxHeartbeats 2000000 in
theorem stp_lin (ρ : Nat × (Nat → Int32)) (call : Nat → List Value → Sg → Rs) (op : Op) (xs st : List Value) (s : Sg) : Lin (stp zC zN ρ call mL op xs st s) := by
  obtain ⟨i, n, a, v⟩ := op
  cases i <;> try exact Lin.c none
  case iconst => exact Lin.k _ _ _ _
  case bipush => exact Lin.k _ _ _ _
  case sipush => exact Lin.k _ _ _ _
  case ldc => cases a <;> first | exact Lin.c none | exact Lin.bif (Lin.k _ _ _ _) (Lin.k _ _ _ _)
  case ldc_w => cases a <;> first | exact Lin.c none | exact Lin.bif (Lin.k _ _ _ _) (Lin.k _ _ _ _)
  case lconst => cases a <;> first | exact Lin.c none | exact Lin.k _ _ _ _
  case ldc2_w => cases a <;> first | exact Lin.c none | exact Lin.k _ _ _ _
  case getstatic => cases a <;> first | exact Lin.c none | exact Lin.k _ _ _ _
  case aconst_null => exact Lin.k _ _ _ _
  case iload => exact Lin.a1 fun _ => Lin.ld fun _ => Lin.int fun _ => Lin.k _ _ _ _
  case iload_n => exact Lin.a1 fun _ => Lin.ld fun _ => Lin.int fun _ => Lin.k _ _ _ _
  case lload => exact Lin.a1 fun _ => Lin.ld fun _ => Lin.lon fun _ => Lin.k _ _ _ _
  case lload_n => exact Lin.a1 fun _ => Lin.ld fun _ => Lin.lon fun _ => Lin.k _ _ _ _
  case aload => exact Lin.a1 fun _ => Lin.ld fun _ => Lin.ref fun _ => Lin.k _ _ _ _
  case aload_n => exact Lin.a1 fun _ => Lin.ld fun _ => Lin.ref fun _ => Lin.k _ _ _ _
  case istore => exact Lin.a1 fun _ => Lin.i1 fun _ _ => Lin.st fun _ => Lin.k _ _ _ _
  case istore_n => exact Lin.a1 fun _ => Lin.i1 fun _ _ => Lin.st fun _ => Lin.k _ _ _ _
  case lstore => exact Lin.a1 fun _ => Lin.p1 fun _ _ => Lin.lon fun _ => Lin.st2 fun _ => Lin.k _ _ _ _
  case lstore_n => exact Lin.a1 fun _ => Lin.p1 fun _ _ => Lin.lon fun _ => Lin.st2 fun _ => Lin.k _ _ _ _
  case astore => exact Lin.a1 fun _ => Lin.p1 fun _ _ => Lin.ref fun _ => Lin.st fun _ => Lin.k _ _ _ _
  case astore_n => exact Lin.a1 fun _ => Lin.p1 fun _ _ => Lin.ref fun _ => Lin.st fun _ => Lin.k _ _ _ _
  case iinc => exact Lin.a1 fun _ => Lin.ld fun _ => Lin.int fun _ => Lin.st fun _ => Lin.k _ _ _ _
  case iadd => exact Lin.i2 fun _ _ _ => Lin.k _ _ _ _
  case isub => exact Lin.i2 fun _ _ _ => Lin.k _ _ _ _
  case imul => exact Lin.i2 fun _ _ _ => Lin.k _ _ _ _
  case iand => exact Lin.i2 fun _ _ _ => Lin.k _ _ _ _
  case ior => exact Lin.i2 fun _ _ _ => Lin.k _ _ _ _
  case ixor => exact Lin.i2 fun _ _ _ => Lin.k _ _ _ _
  case ishl => exact Lin.i2 fun _ _ _ => Lin.k _ _ _ _
  case ishr => exact Lin.i2 fun _ _ _ => Lin.k _ _ _ _
  case iushr => exact Lin.i2 fun _ _ _ => Lin.k _ _ _ _
  case ineg => exact Lin.i1 fun _ _ => Lin.k _ _ _ _
  case ladd => exact Lin.l2 fun _ _ _ => Lin.k _ _ _ _
  case lmul => exact Lin.l2 fun _ _ _ => Lin.k _ _ _ _
  case land => exact Lin.l2 fun _ _ _ => Lin.k _ _ _ _
  case lor => exact Lin.l2 fun _ _ _ => Lin.k _ _ _ _
  case lshl => exact Lin.li fun _ _ _ => Lin.k _ _ _ _
  case lshr => exact Lin.li fun _ _ _ => Lin.k _ _ _ _
  case lushr => exact Lin.li fun _ _ _ => Lin.k _ _ _ _
  case i2l => exact Lin.i1 fun _ _ => Lin.k _ _ _ _
  case l2i => exact Lin.p1 fun _ _ => Lin.lon fun _ => Lin.k _ _ _ _
  case i2b => exact Lin.i1 fun _ _ => Lin.k _ _ _ _
  case lcmp => exact Lin.l2 fun _ _ _ => Lin.k _ _ _ _
  case goto => exact Lin.a1 fun _ => Lin.k _ _ _ _
  case ifCond c _ => cases c <;> exact Lin.a1 fun _ => Lin.i1 fun _ _ => Lin.ite _ (Lin.k _ _ _ _) (Lin.k _ _ _ _)
  case if_icmp c _ => cases c <;> exact Lin.a1 fun _ => Lin.i2 fun _ _ _ => Lin.ite _ (Lin.k _ _ _ _) (Lin.k _ _ _ _)
  case if_acmp c _ => cases c <;> exact Lin.a1 fun _ => Lin.p2 fun _ _ _ => Lin.nuk fun _ => Lin.nuk fun _ => Lin.ite _ (Lin.k _ _ _ _) (Lin.k _ _ _ _)
  case ifnull => exact Lin.a1 fun _ => Lin.p1 fun _ _ => Lin.nul fun _ => Lin.ite _ (Lin.k _ _ _ _) (Lin.k _ _ _ _)
  case ifnonnull => exact Lin.a1 fun _ => Lin.p1 fun _ _ => Lin.nul fun _ => Lin.ite _ (Lin.k _ _ _ _) (Lin.k _ _ _ _)
  case tableswitch => cases a <;> first | exact Lin.c none | exact Lin.i1 fun _ _ => Lin.sw fun _ => Lin.k _ _ _ _
  case getfield => exact Lin.p1 fun _ _ => Lin.gf fun _ => Lin.k _ _ _ _
  case putfield => exact Lin.p2 fun _ _ _ => Lin.pf fun _ => Lin.k _ _ _ _
  case iaload =>
    refine Lin.p2 fun _ _ _ => Lin.ref fun _ => Lin.int fun _ => ?_
    cases a
    · exact Lin.arr fun _ => Lin.k _ _ _ _
    · exact Lin.bif (Lin.idx fun _ => Lin.k _ _ _ _) (Lin.c _)
  case laload => exact Lin.p2 fun _ _ _ => Lin.ref fun _ => Lin.int fun _ => Lin.arr fun _ => Lin.k _ _ _ _
  case baload => exact Lin.p2 fun _ _ _ => Lin.ref fun _ => Lin.int fun _ => Lin.arr fun _ => Lin.k _ _ _ _
  case aaload =>
    refine Lin.p2 fun _ _ _ => Lin.ref fun _ => Lin.int fun _ => ?_
    dsimp only
    split <;> exact Lin.arr fun _ => Lin.k _ _ _ _
  case iastore => exact Lin.p3 fun _ _ _ _ => Lin.ref fun _ => Lin.int fun _ => Lin.int fun _ => Lin.arr fun _ => Lin.k _ _ _ _
  case bastore => exact Lin.p3 fun _ _ _ _ => Lin.ref fun _ => Lin.int fun _ => Lin.int fun _ => Lin.arr fun _ => Lin.k _ _ _ _
  case lastore => exact Lin.p3 fun _ _ _ _ => Lin.ref fun _ => Lin.int fun _ => Lin.lon fun _ => Lin.arr fun _ => Lin.k _ _ _ _
  case aastore =>
    refine Lin.p3 fun _ _ _ _ => Lin.ref fun _ => Lin.int fun _ => Lin.ref fun _ => ?_
    dsimp only
    split
    · exact Lin.obj (Lin.arr fun _ => Lin.k _ _ _ _)
    · exact Lin.bif (Lin.arr fun _ => Lin.k _ _ _ _) (Lin.c _)
  case arraylength =>
    refine Lin.p1 fun _ _ => Lin.ref fun _ => ?_
    cases a <;> exact Lin.bif (Lin.k _ _ _ _) (Lin.c _)
  case dup => exact Lin.p1 fun v r => by cases v <;> first | exact Lin.c none | exact Lin.k _ _ _ _
  case dup2 => exact Lin.p2 fun _ _ _ => Lin.ref fun _ => Lin.int fun _ => Lin.k _ _ _ _
  case pop => exact Lin.i1 fun _ _ => Lin.k _ _ _ _
  case new => rcases a with _ | ⟨c, _ | ⟨d, r⟩⟩ <;> first | exact Lin.c none | exact Lin.new fun _ _ => Lin.k _ _ _ _
  case newarray => cases a <;> first | exact Lin.c none | exact Lin.i1 fun _ _ => Lin.ite _ (Lin.new fun _ _ => Lin.k _ _ _ _) (Lin.c _)
  case anewarray => cases a <;> first | exact Lin.c none | exact Lin.i1 fun _ _ => Lin.ite _ (Lin.new fun _ _ => Lin.k _ _ _ _) (Lin.c _)
  case multianewarray => exact Lin.i2 fun _ _ _ => Lin.ite _ (Lin.new fun _ _ => Lin.row (fun _ => Lin.k _ _ _ _) _ _ _) (Lin.c _)
  case invokevirtual => exact Lin.cal
  case invokestatic => exact Lin.cal
  case invokespecial => exact Lin.cal
  case ireturn => exact Lin.c _
  case lreturn => exact Lin.c _
  case areturn => exact Lin.c _
  case return_ => exact Lin.c _
theorem Lin.mono {g : Kn → Rs} (h : Lin g) {k k' : Kn} {r : List Value × Sg} (hk : ∀ n ys t τ, k n ys t τ = some r → k' n ys t τ = some r) (hg : g k = some r) : g k' = some r := by
  rcases h with ⟨n, ys, t, τ, h⟩ | ⟨o, h⟩
  · rw [h] at hg ⊢
    exact hk _ _ _ _ hg
  · rw [h] at hg ⊢
    exact hg
theorem rn_mono (ρ : Nat × (Nat → Int32)) (call : Nat → List Value → Sg → Rs) (mi : Nat) {r : List Value × Sg} : ∀ (f pc : Nat) (xs st : List Value) (s : Sg), rn ρ call mi f pc xs st s = some r → rn ρ call mi (f + 1) pc xs st s = some r := by
  intro f
  induction f with
  | zero => intro pc xs st s h; cases h
  | succ f ih =>
    intro pc xs st s h
    rw [rn_succ] at h ⊢
    exact Lin.mono (stp_lin ρ call (tab mi pc) xs st s) (fun n ys t τ hh => ih n _ t τ hh) h
theorem rn_le (ρ : Nat × (Nat → Int32)) (call : Nat → List Value → Sg → Rs) (mi : Nat) {r : List Value × Sg} {f g pc : Nat} {xs st : List Value} {s : Sg} (hfg : f ≤ g) (h : rn ρ call mi f pc xs st s = some r) : rn ρ call mi g pc xs st s = some r := by
  induction hfg with
  | refl => exact h
  | step _ ih => exact rn_mono ρ call mi _ _ _ _ _ ih
theorem lim_some {α : Type} {g : Nat → Option α} {r : α} (hm : ∀ f g' r, f ≤ g' → g f = some r → g g' = some r) : lim g = some r ↔ ∃ f, g f = some r := by
  unfold lim
  by_cases h : ∃ f, (g f).isSome = true
  · rw [dif_pos h]
    refine ⟨fun hh => ⟨_, hh⟩, fun ⟨f, hf⟩ => ?_⟩
    obtain ⟨r', hr'⟩ := Option.isSome_iff_exists.mp h.choose_spec
    have h1 := hm _ (max f h.choose) _ (Nat.le_max_left _ _) hf
    have h2 := hm _ (max f h.choose) _ (Nat.le_max_right _ _) hr'
    rw [hr', ← h2, h1]
  · rw [dif_neg h]
    constructor
    · intro hh
      cases hh
    · rintro ⟨f, hf⟩
      exact absurd ⟨f, by rw [hf]; rfl⟩ h
theorem EV_some {ρ : Nat × (Nat → Int32)} {d mi pc : Nat} {xs st : List Value} {s : Sg} {r : List Value × Sg} : EV ρ (d + 1) mi pc xs st s = some r ↔ ∃ f, rn ρ (fun mi' xs' s' => EV ρ d mi' 0 xs' [] s') mi f pc xs st s = some r :=
  lim_some (fun _ _ _ h1 h2 => rn_le ρ _ mi h1 h2)
theorem EV_step (ρ : Nat × (Nat → Int32)) (d mi pc : Nat) (xs st : List Value) (s : Sg) : EV ρ (d + 1) mi pc xs st s = stp zC zN ρ (fun mi' xs' s' => EV ρ d mi' 0 xs' [] s') mL (tab mi pc) xs st s (fun n ys t τ => EV ρ (d + 1) mi n (kk mi n ys) t τ) := by
  refine Option.ext fun r => ?_
  show EV ρ (d + 1) mi pc xs st s = some r ↔ _ = some r
  rw [EV_some]
  have hl := stp_lin ρ (fun mi' xs' s' => EV ρ d mi' 0 xs' [] s') (tab mi pc) xs st s
  constructor
  · rintro ⟨f, hf⟩
    cases f with
    | zero => cases hf
    | succ f =>
      rw [rn_succ] at hf
      exact Lin.mono hl (fun n ys t τ h => EV_some.mpr ⟨f, h⟩) hf
  · intro h
    rcases hl with ⟨n, ys, t, τ, hk⟩ | ⟨o, hk⟩
    · rw [hk] at h
      obtain ⟨f, hf⟩ := EV_some.mp h
      exact ⟨f + 1, by rw [rn_succ, hk]; exact hf⟩
    · rw [hk] at h
      exact ⟨1, by rw [rn_succ, hk]; exact h⟩
/-- up to the next cut -/
def go (ρ : Nat × (Nat → Int32)) (call : Nat → List Value → Sg → Rs) (mi : Nat) (E : Kn) : Nat → Kn
  | 0 => E
  | f + 1 => fun pc xs st s => stp zC zN ρ call mL (tab mi pc) xs st s (fun n ys t τ => match msk mi n with
    | none => go ρ call mi E f n ys t τ
    | some ks => E n (kil ks ys) t τ)
theorem go_succ (ρ : Nat × (Nat → Int32)) (call : Nat → List Value → Sg → Rs) (mi : Nat) (E : Kn) (f pc : Nat) (xs st : List Value) (s : Sg) : go ρ call mi E (f + 1) pc xs st s = stp zC zN ρ call mL (tab mi pc) xs st s (fun n ys t τ => match msk mi n with
    | none => go ρ call mi E f n ys t τ
    | some ks => E n (kil ks ys) t τ) := rfl
theorem Lin.cong {g : Kn → Rs} (h : Lin g) {k k' : Kn} (hk : ∀ n ys t τ, k n ys t τ = k' n ys t τ) : g k = g k' := by
  rcases h with ⟨n, ys, t, τ, h⟩ | ⟨o, h⟩
  · rw [h, h, hk]
  · rw [h, h]
theorem EV_go (ρ : Nat × (Nat → Int32)) (d mi : Nat) : ∀ (f pc : Nat) (xs st : List Value) (s : Sg), EV ρ (d + 1) mi pc xs st s = go ρ (fun mi' xs' s' => EV ρ d mi' 0 xs' [] s') mi (EV ρ (d + 1) mi) f pc xs st s := by
  intro f
  induction f with
  | zero => intro pc xs st s; rfl
  | succ f ih =>
    intro pc xs st s
    rw [EV_step]
    rw [go_succ]
    refine Lin.cong (stp_lin ρ _ (tab mi pc) xs st s) (fun n ys t τ => ?_)
    unfold kk
    cases msk mi n with
    | none => exact ih n ys t τ
    | some ks => rfl
/-- the world when all is made -/
def mk (c : Nat × Nat) (R : Nat → Nat → Option Nat) (I : Nat → Nat → Int32) (L : Nat → Nat → Int64) : Sg := ((NC, c.1, c.2), FC, R, I, L)
