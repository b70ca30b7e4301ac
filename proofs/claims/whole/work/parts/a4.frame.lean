-- THE LAW'S FRAME: up to its loop, then its loop
theorem arrV_ag {cI : ClassId} {N : Nat} {f g : Nat → Value} (h : ∀ j, j < N → f j = g j) : arrV cI N f = arrV cI N g := by
  unfold arrV
  congr 1
  exact congrArg Array.ofFn (funext fun j => h j.val j.isLt)
section AGREE
variable {bs : Nat} {ra : Nat → Nat} {cA : Nat → ClassId}
/-- final references that agree where it matters give the same cells -/
theorem cel_ag {D : va_G} {F G R : Nat → Nat → Option Nat} {I : Nat → Nat → Int32} {L : Nat → Nat → Int64} {x y : Nat × Nat × Nat} {k a : Nat} {H : Heap} (h : (Nat.ble 20 (zC k) && !(Nat.beq (zC k) 23 || Nat.beq (zC k) 24)) = true ∨ ∀ j, j < zN k → ((!(Nat.ble 20 (zC k)) && !(Nat.beq (fk (zC k) j) 2)) = true ∨ F k j = G k j)) (hv : va_at D clz (a, cel bs ra cA (x, F, R, I, L) k) H) : va_at D clz (a, cel bs ra cA (y, G, R, I, L) k) H := by
  have hcls : zC k < 20 → cel bs ra cA (x, F, R, I, L) k = cel bs ra cA (y, G, R, I, L) k := fun hlt => by
    have hj : ∀ j, j < zN k → fv bs ra (zC k) (x, F, R, I, L) k j = fv bs ra (zC k) (y, G, R, I, L) k j := fun j hj => by
      unfold fv
      rcases h with h | h
      · rw [Bool.and_eq_true, Nat.ble_eq] at h; omega
      · rcases h j hj with e | e
        · rw [Bool.and_eq_true] at e
          have e2 : ¬ fk (zC k) j = 2 := fun z => by have := e.2; rw [z] at this; cases this
          split
          · rfl
          · rename_i z; exact absurd z e2
          · rfl
          · rfl
        · show (match fk (zC k) j with
            | 1 => Value.long (L k j)
            | 2 => trV bs ra (zr (F k j))
            | 3 => trV bs ra (zr (R k j))
            | _ => .int (I k j)) = (match fk (zC k) j with
            | 1 => Value.long (L k j)
            | 2 => trV bs ra (zr (G k j))
            | 3 => trV bs ra (zr (R k j))
            | _ => .int (I k j))
          rw [e]
    unfold cel
    split <;> first | omega | (congr 2; exact List.map_congr_left (fun j hm => hj j (List.mem_range.mp hm)))
  by_cases h20 : zC k < 20
  · rw [← hcls h20]; exact hv
  · unfold cel at hv ⊢
    split at hv
    · exact hv
    · exact hv
    · exact hv
    · rename_i e
      have hF : ∀ j, j < zN k → F k j = G k j := fun j hj => by
        rcases h with h | h
        · rw [e] at h; cases h
        · rcases h j hj with z | z
          · rw [e] at z; cases z
          · exact z
      have hv' : H[a]? = some (arrV (cA 23) (zN k) (fun j => va_rf ((F k j).map (trN bs ra)))) := hv
      show H[a]? = some (arrV (cA 23) (zN k) (fun j => va_rf ((G k j).map (trN bs ra))))
      rw [hv', arrV_ag (fun j hj => by rw [hF j hj])]
    · rename_i e
      have hF : ∀ j, j < zN k → F k j = G k j := fun j hj => by
        rcases h with h | h
        · rw [e] at h; cases h
        · rcases h j hj with z | z
          · rw [e] at z; cases z
          · exact z
      have hv' : H[a]? = some (arrV (cA 24) (zN k) (fun j => va_rf ((F k j).map (trN bs ra)))) := hv
      show H[a]? = some (arrV (cA 24) (zN k) (fun j => va_rf ((G k j).map (trN bs ra))))
      rw [hv', arrV_ag (fun j hj => by rw [hF j hj])]
    · exact hv
    · rename_i e1 e2 e3 e4 e5 e6
      exfalso
      have hz : ∀ k, k < 281 → ¬ zC k < 20 → zC k = 20 ∨ zC k = 21 ∨ zC k = 22 ∨ zC k = 23 ∨ zC k = 24 ∨ zC k = 25 := by decide +kernel
      by_cases hk : k < 281
      · rcases hz k hk h20 with z | z | z | z | z | z
        · exact e1 z
        · exact e2 z
        · exact e3 z
        · exact e4 z
        · exact e5 z
        · exact e6 z
      · obtain ⟨r, hr, -⟩ := hv
        have : clz.length ≤ zC k := by show 9 ≤ zC k; omega
        rw [List.getElem?_eq_none this] at hr
        cases hr
theorem wsO_ag {D : va_G} {F R : Nat → Nat → Option Nat} {I : Nat → Nat → Int32} {L : Nat → Nat → Int64} {sl : Nat} {H : Heap} (hF : ckF F = true) (hP : va_P D clz (wsO bs ra cA ((281, 0, sl), F, R, I, L)) H) : va_P D clz (wsO bs ra cA (mk (0, sl) R I L)) H := by
  intro k q hk
  have hlen := (List.getElem?_eq_some_iff.mp hk).1
  have hk281 : k < 281 := by
    unfold wsO at hlen
    rw [List.length_map, List.length_range] at hlen
    exact hlen
  have hq : q = (bs + k, cel bs ra cA (mk (0, sl) R I L) k) := by
    unfold wsO at hk
    rw [List.getElem?_map, List.getElem?_range (show k < (mk (0, sl) R I L).1.1 from hk281)] at hk
    exact (Option.some.inj hk).symm
  have h1 : (wsO bs ra cA ((281, 0, sl), F, R, I, L))[k]? = some (bs + k, cel bs ra cA ((281, 0, sl), F, R, I, L) k) := by
    unfold wsO
    rw [List.getElem?_map, List.getElem?_range (show k < 281 from hk281)]
    rfl
  rw [hq]
  refine cel_ag (F := F) (G := FC) ?_ (hP k _ h1)
  unfold ckF at hF
  have := List.all_eq_true.mp hF k (List.mem_range.mpr hk281)
  rw [Bool.or_eq_true] at this
  rcases this with e | e
  · exact .inl e
  · refine .inr (fun j hj => ?_)
    have e2 := List.all_eq_true.mp e j (List.mem_range.mpr hj)
    rw [Bool.or_eq_true] at e2
    rcases e2 with z | z
    · exact .inl z
    · exact .inr (of_decide_eq_true z)
end AGREE
section FRAMEK
variable {bs : Nat} {ra : Nat → Nat} {cA : Nat → ClassId} {dC : Nat → ClassId} {dI : Nat → Nat → Nat} {ρ : Nat × (Nat → Int32)} {X : State → Heap → Prop}
variable {p : Program} {l : Launch} {e : Env} {R : Room} {s : State} {m : MethodId} {args : Array Value} {below : List Frame} {meth : Method} {c : Code} {cc : ByteArray} {own : String} {nL : Nat} {Q : State → Prop} {c0 s0 : Nat} {r : List Value × Sg}
theorem rnK_leS {K : Kn} {call : Nat → List Value → Sg → Rs} {mi : Nat} (hcl : ∀ mi xs s q, call mi xs s = some q → leS s q.2) (hK : ∀ n ys t τ, K n ys t τ = some r → leS τ r.2) : ∀ (f pc : Nat) (xs st : List Value) (s : Sg), rnK ρ call mi K f pc xs st s = some r → leS s r.2 := by
  intro f
  induction f with
  | zero => intro pc xs st s h; exact hK _ _ _ _ h
  | succ f ih =>
    intro pc xs st s h
    rw [rnK_succ] at h
    exact stp_le ρ call _ _ _ s (fun mi xs q hq => hcl mi xs s q hq) (fun n ys t τ hh => ih n _ t τ hh) h
set_option maxHeartbeats 2000000 in
/-- a run up to a place from which all is known -/
theorem run_sndK (F : Fr bs ra cA dC dI ρ X p s m args c cc own nL) (hX : Xst bs X) (hXa : ∀ U H, X U H → va_AO "LateBinder$Bench" U ∧ va_AO "LateBinder$Key" U) (hac : Cond.arrayClass .int ∈ lw_tbl ∧ Cond.arrayClass .long ∈ lw_tbl ∧ Cond.arrayClass .byte ∈ lw_tbl) (hmok : ∀ mi, mi < nM → mokb mi = true)
    {ini : Bool} {rt : Option FieldType} (hini : ini = true → meth.name = "<init>") {d mi : Nat} {call : Nat → List Value → Sg → Rs} (hcl : ∀ mi xs s q, call mi xs s = some q → leS s q.2) (hok : ∀ pc, opk own ini rt cc pc (tab mi pc) = true)
    (hRd : d + 11 ≤ R.frames ∧ 60 * d + 649 ≤ R.locals) (hsz : s.heap.size ≤ bs + c0) (hR : r.2.1.1 + r.2.1.2.1 ≤ R.cells + c0 ∧ r.2.1.2.2 ≤ R.slots + s0) (hRs : r.2.1.2.2 ≤ 60000000) (hlk : meth.locks = false)
    (hMet : MetsOK bs ra cA dC dI ρ X l d call) (hprim : PrimOK bs ra cA dC dI ρ X l d call) (hmna : MnaOK bs ra cA dC dI ρ X l) {K : Kn} (hK1 : ∀ n ys t τ, K n ys t τ = some r → leS τ r.2)
    (hKG : ∀ n ys t τ, K n ys t τ = some r → Gl bs ra cA dC dI p l e R s m args below meth c nL Q c0 s0 n ys t τ)
    (hret : ∀ (pc : Nat) (xs st : List Value) (σ : Sg) (k : Kn), isRet (tab mi pc).1 = true → stp zC zN ρ call mL (tab mi pc) xs st σ k = some r → Gl bs ra cA dC dI p l e R s m args below meth c nL Q c0 s0 pc xs st σ) :
    ∀ (f pc : Nat) (xs st : List Value) (σ : Sg), rnK ρ call mi K f pc xs st σ = some r → Gl bs ra cA dC dI p l e R s m args below meth c nL Q c0 s0 pc xs st σ := by
  intro f
  induction f with
  | zero => intro pc xs st σ h; exact hKG _ _ _ _ h
  | succ f ih =>
    intro pc xs st σ h
    rw [rnK_succ] at h
    have hk1 : ∀ n ys t τ, rnK ρ call mi K f n (kk mi n ys) t τ = some r → leS τ r.2 := fun n ys t τ hh => rnK_leS hcl hK1 f n _ t τ hh
    have hk : ∀ n ys t τ, leS σ τ → rnK ρ call mi K f n (kk mi n ys) t τ = some r → Gl bs ra cA dC dI p l e R s m args below meth c nL Q c0 s0 n ys t τ := fun n ys t τ _ hh ls H locs cells slots h1 h2 h3 h4 h5 h6 =>
      ih n (kk mi n ys) t τ hh ls H locs cells slots h1 (lcO_kk h2) h3 h4 h5 h6
    cases hr : isRet (tab mi pc).1 with
    | true => exact hret pc xs st σ _ hr h
    | false =>
      have hAO := hXa s s.heap F.2.2.2.2.2.2.1.2.2.2.2.2
      have hcal : ∀ (so x : Nat) (a : List Nat), so ≤ 2 → cak own so x a = true → decode cc pc = .ok ((if so = 0 then .invokestatic x else if so = 1 then .invokevirtual x else .invokespecial x), 3) → zcal zC zN call mL a (pc + 3) xs st σ (fun n ys t τ => rnK ρ call mi K f n (kk mi n ys) t τ) = some r → Gl bs ra cA dC dI p l e R s m args below meth c nL Q c0 s0 pc xs st σ := fun so x a h1 h2 h3 h4 =>
        snd_cal F hX hmok hRd hsz hR hRs hlk hMet hprim hk1 hk h1 h2 h3 h4
      exact snd_step F hini (hok pc) hr hR hsz hRs hAO hac hk1 hk hcal (fun x w h1 h2 h3 => hmna p e R s m args below meth c cc own nL Q c0 s0 _ r pc x w xs st σ F hsz hR hRs hk1 hk h1 h2 h3) h
end FRAMEK
