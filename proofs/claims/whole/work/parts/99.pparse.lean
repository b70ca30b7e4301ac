-- THE PURE PARSER
/-- what is read so far: the plan's part, then names, ids, patterns -/
abbrev QT : Type := (Nat × Nat × Nat) × (Nat → Option Nat) × (Nat → List Nat) × (Nat → List (Nat × Nat)) × (Nat → List Nat) × (Nat → List Nat) × (Nat → List Nat) × (Nat → List (List Nat)) × (Nat → List Nat)
abbrev q_nd (Q : QT) (v : Nat) : QT := ((v, Q.1.2.1, Q.1.2.2), Q.2)
abbrev q_nv (Q : QT) (v : Nat) : QT := ((Q.1.1, v, Q.1.2.2), Q.2)
abbrev q_ns (Q : QT) (v : Nat) : QT := ((Q.1.1, Q.1.2.1, v), Q.2)
abbrev q_pa (Q : QT) (v : Nat → Option Nat) : QT := (Q.1, v, Q.2.2)
abbrev q_ne (Q : QT) (v : Nat → List Nat) : QT := (Q.1, Q.2.1, v, Q.2.2.2)
abbrev q_sp (Q : QT) (v : Nat → List (Nat × Nat)) : QT := (Q.1, Q.2.1, Q.2.2.1, v, Q.2.2.2.2)
abbrev q_dn (Q : QT) (v : Nat → List Nat) : QT := (Q.1, Q.2.1, Q.2.2.1, Q.2.2.2.1, v, Q.2.2.2.2.2)
abbrev q_di (Q : QT) (v : Nat → List Nat) : QT := (Q.1, Q.2.1, Q.2.2.1, Q.2.2.2.1, Q.2.2.2.2.1, v, Q.2.2.2.2.2.2)
abbrev q_vn (Q : QT) (v : Nat → List Nat) : QT := (Q.1, Q.2.1, Q.2.2.1, Q.2.2.2.1, Q.2.2.2.2.1, Q.2.2.2.2.2.1, v, Q.2.2.2.2.2.2.2)
abbrev q_pt (Q : QT) (v : Nat → List (List Nat)) : QT := (Q.1, Q.2.1, Q.2.2.1, Q.2.2.2.1, Q.2.2.2.2.1, Q.2.2.2.2.2.1, Q.2.2.2.2.2.2.1, v, Q.2.2.2.2.2.2.2.2)
abbrev q_sn (Q : QT) (v : Nat → List Nat) : QT := (Q.1, Q.2.1, Q.2.2.1, Q.2.2.2.1, Q.2.2.2.2.1, Q.2.2.2.2.2.1, Q.2.2.2.2.2.2.1, Q.2.2.2.2.2.2.2.1, v)
def Q0 : QT := ((0, 0, 0), fun _ => none, fun _ => [], fun _ => [], fun _ => [], fun _ => [], fun _ => [], fun _ => [], fun _ => [])
def er (K : Tk) (y : Nat) : Nat := 8 * K.2.1 + y
/-- a word that is told -/
def kW (i : Nat) (K : Tk) : Bool := K.1 == 1 && K.2.2.2 == kwd i
/-- a word that is none of those told -/
def fre (K : Tk) : Bool := K.1 == 1 && (kwi K.2.2.2).isNone
/-- the place of a name among n -/
def fnd (f : Nat → List Nat) (n : Nat) (w : List Nat) : Option Nat := (List.range n).find? (fun k => f k == w)
def nmb (K : Tk) : Nat := cd 10 48 K.2.2.2
section PPARSE
variable (n : Nat) (t : Nat → Nat)
def nxK (K : Tk) : Tk := tok n t K.2.2.1
def ySup (Q : QT) (K : Tk) : Except Nat (QT × Nat) := if fre K = true then (match fnd Q.2.2.2.2.2.2.2.2 Q.1.2.2 K.2.2.2 with
    | some s => .ok (Q, s)
    | none => if Q.1.2.2 < 8 then .ok (q_ns (q_sn Q (va_up Q.2.2.2.2.2.2.2.2 Q.1.2.2 K.2.2.2)) (Q.1.2.2 + 1), Q.1.2.2) else .error (er K 4)) else .error (er K 1)
def yNeeds : Nat → QT → Tk → Except Nat (QT × Tk)
  | 0, Q, K => if kW 3 K = true then .error (er K 4) else .ok (Q, K)
  | f + 1, Q, K => if kW 3 K = true then (match ySup Q (nxK n t K) with
    | .error e => .error e
    | .ok (Q', s) => yNeeds f (q_ne Q' (va_up Q'.2.2.1 Q'.1.1 (Q'.2.2.1 Q'.1.1 ++ [s]))) (nxK n t (nxK n t K))) else .ok (Q, K)
def yPar (Q : QT) (K : Tk) : Except Nat (QT × Tk) := if kW 2 K = true then (if fre (nxK n t K) = true then (match fnd Q.2.2.2.2.1 Q.1.1 (nxK n t K).2.2.2 with
    | some y => .ok (q_pa Q (va_up Q.2.1 Q.1.1 (some y)), nxK n t (nxK n t K))
    | none => .error (er (nxK n t K) 3)) else .error (er (nxK n t K) 1)) else .ok (Q, K)
/-- a new name: what is wrong with it -/
def yNew (Q : QT) (K : Tk) : Option Nat := if fre K = true then (if fnd Q.2.2.2.2.1 Q.1.1 K.2.2.2 = none ∧ fnd Q.2.2.2.2.2.2.1 Q.1.2.1 K.2.2.2 = none then none else some (er K 3)) else some (er K 1)
/-- the signs of an id: what is wrong with them -/
def yId (K : Tk) : Option Nat := if K.1 = 4 then (if K.2.2.2.all isLi = true then none else some (er K 2)) else some (er K 1)
def yDevL (Q : QT) (K : Tk) : Except Nat (QT × Tk) := if Q.1.1 < 12 then (match yNew Q (nxK n t K) with
    | some e => .error e
    | none => match yId (nxK n t (nxK n t K)) with
      | some e => .error e
      | none => match yPar n t (q_di (q_dn Q (va_up Q.2.2.2.2.1 Q.1.1 (nxK n t K).2.2.2)) (va_up Q.2.2.2.2.2.1 Q.1.1 (nxK n t (nxK n t K)).2.2.2)) (nxK n t (nxK n t (nxK n t K))) with
        | .error e => .error e
        | .ok (Q', K') => match yNeeds n t 3 Q' K' with
          | .error e => .error e
          | .ok (Q2, K2) => .ok (q_nd Q2 (Q2.1.1 + 1), K2)) else .error (er K 4)
def yPats : Nat → QT → Tk → Except Nat (QT × Tk)
  | 0, _, K => .error (er K 4)
  | f + 1, Q, K => if (nxK n t K).1 = 4 then (if kW 4 (nxK n t (nxK n t K)) = true then yPats f (q_pt Q (va_up Q.2.2.2.2.2.2.2.1 Q.1.2.1 (Q.2.2.2.2.2.2.2.1 Q.1.2.1 ++ [(nxK n t K).2.2.2]))) (nxK n t (nxK n t K)) else .ok (q_pt Q (va_up Q.2.2.2.2.2.2.2.1 Q.1.2.1 (Q.2.2.2.2.2.2.2.1 Q.1.2.1 ++ [(nxK n t K).2.2.2])), nxK n t (nxK n t K))) else .error (er (nxK n t K) 1)
/-- which step a word tells -/
def stw (K : Tk) : Option Nat := if K.1 = 1 then (match kwi K.2.2.2 with
    | some i => if 5 ≤ i then some (i - 5) else none
    | none => none) else none
/-- the value of a step and the token behind it -/
def yVal (z : Nat) (Q : QT) (K : Tk) : Except Nat (QT × Nat × Tk) := if z = 4 then .ok (Q, 0, K) else if z ≤ 1 then (if K.1 = 2 then (if (z = 0 → 1 ≤ nmb K) ∧ (z = 1 → nmb K < 16) then .ok (Q, nmb K, nxK n t K) else .error (er K 2)) else .error (er K 1)) else match ySup Q K with
    | .error e => .error e
    | .ok (Q', s) => .ok (Q', s, nxK n t K)
def ySteps : Nat → QT → Tk → Except Nat (QT × Tk)
  | 0, Q, K => (match stw K with
    | none => .ok (Q, K)
    | some _ => .error (er K 4))
  | f + 1, Q, K => (match stw K with
    | none => .ok (Q, K)
    | some z => match yVal n t z Q (nxK n t K) with
      | .error e => .error e
      | .ok (Q', v, K') => ySteps f (q_sp Q' (va_up Q'.2.2.2.1 Q'.1.2.1 (Q'.2.2.2.1 Q'.1.2.1 ++ [(z, v)]))) K')
def yDrvL (Q : QT) (K : Tk) : Except Nat (QT × Tk) := if Q.1.2.1 < 8 then (match yNew Q (nxK n t K) with
    | some e => .error e
    | none => match yPats n t 3 (q_vn Q (va_up Q.2.2.2.2.2.2.1 Q.1.2.1 (nxK n t K).2.2.2)) (nxK n t K) with
      | .error e => .error e
      | .ok (Q', K') => match ySteps n t 6 Q' K' with
        | .error e => .error e
        | .ok (Q2, K2) => .ok (q_nv Q2 (Q2.1.2.1 + 1), K2)) else .error (er K 4)
def yLine (Q : QT) (K : Tk) : Except Nat (QT × Tk) := if kW 0 K = true then yDevL n t Q K else if kW 1 K = true then yDrvL n t Q K else .error (er K 1)
def yMain : Nat → QT → Tk → Except Nat QT
  | 0, _, _ => .error 0
  | f + 1, Q, K => if K.1 = 0 then .ok Q else (match yLine n t Q K with
    | .error e => .error e
    | .ok (Q', K') => if K'.1 = 3 then yMain f Q' (nxK n t K') else .error (er K' 1))
def yBoard : Except Nat QT := yMain n t 21 Q0 (tok n t 0)
end PPARSE
