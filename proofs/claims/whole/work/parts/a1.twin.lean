-- A TWIN OF THE RUN THAT CAN BE EVALUATED
/-- no instruction that looks at the script -/
def spo (op : Op) : Bool := match op.1 with
  | .iaload => op.2.2.1.isEmpty
  | .arraylength => op.2.2.1.isEmpty
  | _ => true
def ρ0 : Nat × (Nat → Int32) := (0, fun _ => 0)
def stp0 (call : Nat → List Value → Sg → Rs) (op : Op) (xs st : List Value) (s : Sg) (k : Kn) : Rs := bif spo op then stp zC zN ρ0 call mL op xs st s k else none
def rn0 (call : Nat → List Value → Sg → Rs) (mi : Nat) : Nat → Kn
  | 0 => fun _ _ _ _ => none
  | f + 1 => fun pc xs st s => stp0 call (tab mi pc) xs st s (fun n ys t τ => rn0 call mi f n (kk mi n ys) t τ)
def rd0 (f : Nat) : Nat → Nat → List Value → Sg → Rs
  | 0 => fun _ _ _ => none
  | d + 1 => fun mi xs s => rn0 (rd0 f d) mi f 0 xs [] s
set_option maxHeartbeats 2000000 in
theorem stp0_s {ρ : Nat × (Nat → Int32)} {call : Nat → List Value → Sg → Rs} {op : Op} {xs st : List Value} {s : Sg} {k : Kn} {r : List Value × Sg} (h : stp0 call op xs st s k = some r) : stp zC zN ρ call mL op xs st s k = some r := by
  unfold stp0 at h
  obtain ⟨h1, h2⟩ := bif_i h
  obtain ⟨i, n, a, v⟩ := op
  cases i <;> try exact h2
  case if_acmp c o => cases c <;> exact h2
  case if_icmp c o => cases c <;> exact h2
  case ifCond c o => cases c <;> exact h2
  case iaload =>
    cases a with
    | nil => exact h2
    | cons x y => cases h1
  case arraylength =>
    cases a with
    | nil => exact h2
    | cons x y => cases h1
theorem zfor_m {s : Sg} {k : Nat} {v : Value} {f g : Value → Rs} {r : List Value × Sg} (h : zfor zC s k v f = some r) (hfg : ∀ u, f u = some r → g u = some r) : zfor zC s k v g = some r := by
  rcases k with _ | _ | _ | _ | k
  · cases v <;> first | exact hfg _ h | cases h
  · cases v <;> first | exact hfg _ h | cases h
  · cases v <;> first | exact hfg _ h | cases h
  · cases v <;> try cases h
    obtain ⟨h1, h2⟩ := bif_i h
    show (bif _ then _ else none) = _
    rw [h1]
    exact hfg _ h2
  · cases v <;> try cases h
    obtain ⟨h1, h2⟩ := bif_i h
    show (bif _ then _ else none) = _
    rw [h1]
    exact hfg _ h2
theorem zpop_m {s : Sg} {f g : List Value → List Value → Rs} {r : List Value × Sg} (hfg : ∀ as t, f as t = some r → g as t = some r) : ∀ (fs : List Nat) (st acc : List Value), zpop zC s fs st acc f = some r → zpop zC s fs st acc g = some r
  | [], _, _, h => hfg _ _ h
  | _ :: _, [], _, h => by cases h
  | k :: fs, v :: r', acc, h => by
    have h' : zfor zC s k v (fun u => zpop zC s fs r' (u :: acc) f) = some r := h
    exact zfor_m h' (fun u hu => zpop_m hfg fs r' (u :: acc) hu)
section CM
variable {c1 c2 : Nat → List Value → Sg → Rs} {r : List Value × Sg}
theorem cV_m {o o' : Rs} {f : Sg → Rs} (h : zcV o f = some r) (ho : ∀ q, o = some q → o' = some q) : zcV o' f = some r := by
  cases o with
  | none => cases h
  | some q => rw [ho q rfl]; exact h
theorem cI_m {o o' : Rs} {f : Int32 → Sg → Rs} (h : zcI o f = some r) (ho : ∀ q, o = some q → o' = some q) : zcI o' f = some r := by
  cases o with
  | none => cases h
  | some q => rw [ho q rfl]; exact h
theorem cL_m {o o' : Rs} {f : Int64 → Sg → Rs} (h : zcL o f = some r) (ho : ∀ q, o = some q → o' = some q) : zcL o' f = some r := by
  cases o with
  | none => cases h
  | some q => rw [ho q rfl]; exact h
theorem cR_m {o o' : Rs} {f : Nat → Sg → Rs} (h : zcR o f = some r) (ho : ∀ q, o = some q → o' = some q) : zcR o' f = some r := by
  cases o with
  | none => cases h
  | some q => rw [ho q rfl]; exact h
theorem zcal_m (hc : ∀ mi xs s q, c1 mi xs s = some q → c2 mi xs s = some q) {a : List Nat} {n : Nat} {xs st : List Value} {s : Sg} {k : Kn} (h : zcal zC zN c1 mL a n xs st s k = some r) : zcal zC zN c2 mL a n xs st s k = some r := by
  unfold zcal at h ⊢
  rcases a with _ | ⟨kd, _ | ⟨mi, _ | ⟨w, fs⟩⟩⟩ <;> try cases h
  refine zpop_m (fun as t h => ?_) fs st [] h
  obtain ⟨h1, h2⟩ := bif_i h
  rw [h1]
  show (match kd with
    | 0 => _
    | 1 => _
    | 2 => _
    | 3 => _
    | 4 => _
    | 5 => _
    | 6 => _
    | 7 => _
    | 8 => _
    | _ => _) = _
  rcases kd with _ | _ | _ | _ | _ | _ | _ | _ | _ | _
  · exact cV_m h2 (fun q hq => hc _ _ _ _ hq)
  · exact cI_m h2 (fun q hq => hc _ _ _ _ hq)
  · exact cL_m h2 (fun q hq => hc _ _ _ _ hq)
  · exact cR_m h2 (fun q hq => hc _ _ _ _ hq)
  · exact h2
  · exact h2
  · exact h2
  · exact h2
  · rcases as with _ | ⟨v, _ | ⟨w, _ | ⟨x, _ | ⟨y, _ | _⟩⟩⟩⟩ <;> try cases h2
    cases v <;> try cases h2
    cases w <;> try cases h2
    cases x <;> try cases h2
    cases y <;> try cases h2
    simp only [zref, zint] at h2 ⊢
    obtain ⟨g1, g2⟩ := bif_i h2
    obtain ⟨g3, g4⟩ := bif_i g2
    unfold zobj
    rw [g1, g3, cond_true, cond_true]
    split at g4
    · cases g4
    · rename_i j hj
      obtain ⟨g5, g6⟩ := bif_i g4
      rw [g5, cond_true]
      split at g6
      · rename_i hcnd; rw [if_pos hcnd]; exact g6
      · rename_i hcnd; rw [if_neg hcnd]; exact cI_m g6 (fun q hq => hc _ _ _ _ hq)
  · exact h2
set_option maxHeartbeats 2000000 in
theorem stp_c {ρ : Nat × (Nat → Int32)} (hc : ∀ mi xs s q, c1 mi xs s = some q → c2 mi xs s = some q) {op : Op} {xs st : List Value} {s : Sg} {k : Kn} (h : stp zC zN ρ c1 mL op xs st s k = some r) : stp zC zN ρ c2 mL op xs st s k = some r := by
  obtain ⟨i, n, a, v⟩ := op
  cases i <;> try first | exact h | exact zcal_m hc h
  case if_acmp c o => cases c <;> exact h
  case if_icmp c o => cases c <;> exact h
  case ifCond c o => cases c <;> exact h
theorem rn0_c {ρ : Nat × (Nat → Int32)} {mi : Nat} (hc : ∀ mi xs s q, c1 mi xs s = some q → c2 mi xs s = some q) : ∀ (f pc : Nat) (xs st : List Value) (s : Sg), rn0 c1 mi f pc xs st s = some r → rn ρ c2 mi f pc xs st s = some r := by
  intro f
  induction f with
  | zero => intro pc xs st s h; cases h
  | succ f ih =>
    intro pc xs st s h
    have h1 : stp zC zN ρ c1 mL (tab mi pc) xs st s (fun n ys t τ => rn0 c1 mi f n (kk mi n ys) t τ) = some r := stp0_s h
    rw [rn_succ]
    refine stp_c hc ?_
    rcases stp_lin ρ c1 (tab mi pc) xs st s with ⟨n, ys, t, τ, e⟩ | ⟨o, e⟩
    · rw [e] at h1 ⊢
      exact ih n (kk mi n ys) t τ h1
    · rw [e] at h1 ⊢
      exact h1
theorem rd0_EV (ρ : Nat × (Nat → Int32)) {f : Nat} : ∀ (d mi : Nat) (xs : List Value) (s : Sg) (r : List Value × Sg), rd0 f d mi xs s = some r → EV ρ d mi 0 xs [] s = some r := by
  intro d
  induction d with
  | zero => intro mi xs s r h; cases h
  | succ d ih => intro mi xs s r h; exact EV_some.mpr ⟨f, rn0_c (fun mi xs s q hq => ih mi xs s q hq) f 0 xs [] s h⟩
end CM
/-- deeper is no less -/
theorem EV_dm (ρ : Nat × (Nat → Int32)) : ∀ (d mi pc : Nat) (xs st : List Value) (s : Sg) (r : List Value × Sg), EV ρ d mi pc xs st s = some r → EV ρ (d + 1) mi pc xs st s = some r := by
  intro d
  induction d with
  | zero => intro mi pc xs st s r h; cases h
  | succ d ih =>
    intro mi pc xs st s r h
    obtain ⟨f, hf⟩ := EV_some.mp h
    refine EV_some.mpr ⟨f, ?_⟩
    have loop : ∀ (f pc : Nat) (xs st : List Value) (s : Sg), rn ρ (fun mi' xs' s' => EV ρ d mi' 0 xs' [] s') mi f pc xs st s = some r → rn ρ (fun mi' xs' s' => EV ρ (d + 1) mi' 0 xs' [] s') mi f pc xs st s = some r := by
      intro f
      induction f with
      | zero => intro pc xs st s h; cases h
      | succ f ihf =>
        intro pc xs st s h
        rw [rn_succ] at h ⊢
        refine stp_c (c1 := fun mi' xs' s' => EV ρ d mi' 0 xs' [] s') (fun mi xs s q hq => ih mi 0 xs [] s q hq) ?_
        rcases stp_lin ρ (fun mi' xs' s' => EV ρ d mi' 0 xs' [] s') (tab mi pc) xs st s with ⟨n, ys, t, τ, e⟩ | ⟨o, e⟩
        · rw [e] at h ⊢
          exact ihf n (kk mi n ys) t τ h
        · rw [e] at h ⊢
          exact h
    exact loop f pc xs st s hf
theorem EV_dn (ρ : Nat × (Nat → Int32)) {d mi : Nat} {xs : List Value} {s : Sg} {r : List Value × Sg} (h : EV ρ d mi 0 xs [] s = some r) : ∀ k, EV ρ (d + k) mi 0 xs [] s = some r
  | 0 => h
  | k + 1 => EV_dm ρ _ _ _ _ _ _ _ (EV_dn ρ h k)
