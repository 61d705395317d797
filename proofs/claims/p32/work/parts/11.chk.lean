/-! THE CHECKER: paths from the entry, and from each cut, to returns and cuts -/
/-- cuts: (pc, locals, cells, facts, measure, blocks that are there) -/
abbrev aCu : Type := Nat × List (Option aT) × List aC × List aF × aF × List Nat
def kN (K : aK) : Nat := (spEnv K.2.1).length + K.2.2.1.length
def kEnv (K : aK) : List aE := spEnv K.2.1 ++ clEnv K.2.2.1
def aBool (y : Nat) : Bool := decide (jrT y = some .boolean)
/-- an answer, by one of the contract's -/
def aRetV (env : List aE) (fc : List aF) (m : List Nat) (v : aV) (bl : Bool) (q : aQ) : Bool := match q.1 with
  | 0 => Nat.beq v.1 0 && aWithin env fc v.2.1 q.2.1 q.2.2.1 && (!bl || aWithin env fc v.2.1 0 1) && (match q.2.2.2.2.2 with
    | [] => true
    | ts => (aWithin env fc v.2.1 1 1 && entA env fc m ts) || (aWithin env fc v.2.1 0 0 && ts.any (fun F => entA env fc m [fadd 1 (fmul (-1) F) (fcon (-1))]) && (fsubA env m ts).isSome))
  | 2 => Nat.beq v.1 2 && Nat.beq v.2.1 q.2.2.2.1 && Nat.beq v.2.2 q.2.2.2.2.1
  | 5 => Nat.beq v.1 0 && !bl && Nat.blt 0 q.2.2.2.1 && aWithin env fc v.2.1 q.2.1 (q.2.1 + q.2.2.2.1 * q.2.2.1) && (lin env v.2.1).1.all (fun r => decide (r.2 % (q.2.2.2.1 : Int) = 0)) && decide (((lin env v.2.1).2 - q.2.1) % (q.2.2.2.1 : Int) = 0)
  | _ => false
def aRet (TT : List (List aCT)) (K : aK) (i : Instr) (len : Nat) (env : List aE) (fc : List aF) (stk : List aV) (ov : List aO) : Bool := match clIds TT K.2.2.2.2.2.1 env ov fc with
  | none => false
  | some r => match i, stk with
    | .return_, [] => Nat.beq len 1 && decide (jrT K.1 = none) && K.2.2.2.2.1.any (fun q => Nat.beq q.1 9) && entA r.1 fc (List.range (kN K) ++ r.2.2) K.2.2.2.2.2.2.1
    | .ireturn, [v] => Nat.beq len 1 && Nat.beq v.1 0 && (decide (jrT K.1 = some .int) || aBool K.1) && K.2.2.2.2.1.any (aRetV r.1 fc (List.range (kN K)) v (aBool K.1)) && entA r.1 fc (List.range (kN K) ++ r.2.2 ++ [v.2.1]) K.2.2.2.2.2.2.1
    | .areturn, [v] => Nat.beq len 1 && (match jrT K.1 with | some (.object _) => true | _ => false) && K.2.2.2.2.1.any (fun q => Nat.beq q.1 2 && aRetV r.1 fc (List.range (kN K)) v false q) && entA r.1 fc (List.range (kN K) ++ r.2.2) K.2.2.2.2.2.2.1
    | _, _ => false
def isRet : Instr → Bool
  | .return_ => true
  | .ireturn => true
  | .areturn => true
  | _ => false
def aCut (TT : List (List aCT)) (K : aK) (C : aCu) (m0 : Option aF) (kc ks : Nat) (env : List aE) (fc : List aF) (loc : List (Option aV)) (stk : List aV) (ov : List aO) (pr : List Nat) : Bool := match stk with
  | [] => (match spIds env fc loc C.2.1 with
    | none => false
    | some pids => match clIds TT C.2.2.1 env ov fc with
      | none => false
      | some r => Nat.beq kc K.2.2.2.2.2.2.2.2.2.1 && Nat.beq ks K.2.2.2.2.2.2.2.2.2.2 && C.2.2.2.2.2.all (fun B => pr.contains B) && entA r.1 fc (List.range (kN K) ++ pids ++ r.2.2) C.2.2.2.1 &&
        (match fsub r.1 (List.range (kN K) ++ pids ++ r.2.2) C.2.2.2.2.1 with
        | none => false
        | some G => ent r.1 fc G && (match m0 with | none => true | some F => ent r.1 fc (fadd 1 (fadd (-1) F G) (fcon (-1))))))
  | _ => false
def cutAt (cs : List aCu) (pc : Nat) : Option aCu := cs.find? (fun C => Nat.beq C.1 pc)
/-- splits: (pc, 0, B, o, place, c): the known cell is at most c, or above it; (pc, 1, local, _, _, c); (pc, 2, place on the stack, _, _, c) -/
abbrev aSp : Type := Nat × Nat × Nat × Nat × Nat × Int
def spId (S : aS) (q : aSp) : Option Nat := match q.2.1 with
  | 0 => ovFind q.2.2.1 q.2.2.2.1 (fcon q.2.2.2.2.1) S.2.2.2.2.1
  | 1 => (match S.2.2.1[q.2.2.1]? with
    | some (some v) => bif Nat.ble v.1 1 then some v.2.1 else none
    | _ => none)
  | _ => match S.2.2.2.1[q.2.2.1]? with
    | some v => bif Nat.ble v.1 1 then some v.2.1 else none
    | _ => none
def brS (q : Option (List aE × List aF)) (S : aS) : List aS := match q with
  | some r => [(r.1, r.2, S.2.2)]
  | none => []
def isTg (env : List aE) (i : Nat) : Bool := match env[i]? with
  | some e => Nat.beq e.2.2.2.1 1
  | none => false
def spl1 (q : aSp) (S : aS) : List aS := match spId S q with
  | none => [S]
  | some i => bif isTg S.1 i then brS (tAsm S.1 S.2.1 .eq i) S ++ brS (tAsm S.1 S.2.1 .ne i) S else brS (cAsm S.1 S.2.1 .le (fadd 1 (lin S.1 i) (fcon (-q.2.2.2.2.2)))) S ++ brS (cAsm S.1 S.2.1 .gt (fadd 1 (lin S.1 i) (fcon (-q.2.2.2.2.2)))) S
def spl (pc : Nat) : List aSp → aS → List aS
  | [], S => [S]
  | q :: t, S => bif Nat.beq q.1 pc then (spl1 q S).flatMap (spl pc t) else spl pc t S
def chk (M : aM) (K : aK) (cs : List aCu) (sp : List aSp) (m0 : Option aF) : Nat → Bool → Nat → aS → Nat → Nat → Bool
  | 0, _, _, _, _, _ => false
  | n + 1, first, pc, S, kc, ks => match (bif first then none else cutAt cs pc) with
    | some C => aCut M.1 K C m0 kc ks S.1 S.2.1 S.2.2.1 S.2.2.2.1 S.2.2.2.2.1 S.2.2.2.2.2
    | none => match dcF K.1 pc with
      | .ok q => (spl pc sp S).all (fun S => bif isRet q.1 then aRet M.1 K q.1 q.2 S.1 S.2.1 S.2.2.2.1 S.2.2.2.2.1 else (match aStep M pc kc ks q.1 q.2 S.1 S.2.1 S.2.2.1 S.2.2.2.1 S.2.2.2.2.1 S.2.2.2.2.2 with
        | some l => l.all (fun r => chk M K cs sp m0 n false r.1 r.2.1 r.2.2.1 r.2.2.2)
        | none => false))
      | .error _ => false
/-- the whole check of contract number k, with its cuts; P: what may not be written by a method itself -/
def kchk (TT : List (List aCT)) (KT : List aK) (KI : List (List Nat)) (P : List aR) (fuel k own : Nat) (cs : List aCu) (sp : List aSp) : Bool := match KT[k]? with
  | none => false
  | some K => decide (jcN own = (jyN K.1).cls) && Nat.blt K.1 jNM && Nat.beq K.2.1.length (jmx K.1) &&
    chk (TT, KT, KI, K.2.2.2.2.2.2.2.1, P, K.1, own, K.2.2.2.2.2.2.2.2.1, k) K cs sp none fuel true 0 (spState [] K.2.1 K.2.2.1 K.2.2.2.1 []) K.2.2.2.2.2.2.2.2.2.1 K.2.2.2.2.2.2.2.2.2.2 &&
    cs.all (fun C => Nat.beq C.2.1.length (jmx K.1) && chk (TT, KT, KI, K.2.2.2.2.2.2.2.1, P, K.1, own, K.2.2.2.2.2.2.2.2.1, k) K cs sp (some C.2.2.2.2.1) fuel true C.1 (spState (kEnv K) C.2.1 C.2.2.1 C.2.2.2.1 C.2.2.2.2.2) K.2.2.2.2.2.2.2.2.2.1 K.2.2.2.2.2.2.2.2.2.2)
