/-! THE CHECKER'S STEP -/
/-- of each class the fields' kinds: 0 int, 1 boolean, 2 long, 3 a reference, 9 final -/
def jfk : List (List Nat) := [[9, 0, 0], [0, 9, 9, 1], [1, 0, 0, 9, 9, 9, 9, 9, 9, 0, 0, 3], [9, 9, 9, 9, 0, 0, 0], [9, 9, 0, 0], [0, 9, 9, 9, 9, 0, 9, 9], [0, 9, 9, 9, 0, 9, 9, 9], [9, 9, 9, 0, 0, 0, 9, 9, 9, 9, 9, 9, 9, 9, 9, 9, 9, 9, 9, 9], [0, 9, 9, 9, 9], [9, 9, 9, 9, 9, 9, 9, 0, 9, 9, 9, 9, 9, 1, 0], [0, 0, 9, 9, 9], [9, 3, 3, 9, 0, 9, 0, 0, 9, 3, 3, 3], [0, 0, 9, 9, 9, 9, 0, 0, 0, 0, 2, 0, 1, 0, 9, 0, 9, 9, 0, 9, 0, 0, 9, 9, 9, 0, 0, 9, 9, 0, 9, 9, 9, 9, 9, 9, 9, 9, 9, 9, 9, 9]]
def jfkAt (ci f : Nat) : Option Nat := match jfk[ci]? with
  | some l => l[f]?
  | none => none
def jfkB (r : vw_C) (l : List Nat) : Bool := Nat.beq l.length r.2.2 && (List.range r.2.2).all (fun f => match l[f]? with
  | some 0 => !(r.2.1 f).2.2.2 && decide (parseFieldDescriptor (r.2.1 f).2.2.1 = some .int)
  | some 1 => !(r.2.1 f).2.2.2 && decide (parseFieldDescriptor (r.2.1 f).2.2.1 = some .boolean)
  | some 2 => !(r.2.1 f).2.2.2 && decide (parseFieldDescriptor (r.2.1 f).2.2.1 = some .long)
  | some 3 => !(r.2.1 f).2.2.2 && (match parseFieldDescriptor (r.2.1 f).2.2.1 with | some (.object _) => true | _ => false)
  | _ => true)
def fkI (k : Option Nat) (lo hi : Int) : Bool := match k with
  | some 0 => true
  | some 1 => decide (0 ≤ lo) && decide (hi ≤ 1)
  | _ => false
def fkJ (k : Option Nat) : Bool := match k with
  | some 2 => true
  | _ => false
def fkR (k : Option Nat) : Bool := match k with
  | some 3 => true
  | _ => false
theorem jfk_all : (List.range 13).all (fun ci => match jcl[ci]?, jfk[ci]? with | some r, some l => jfkB r l | _, _ => false) = true := by decide +kernel
theorem jfk_at {ci f k : Nat} {r : vw_C} (hr : jcl[ci]? = some r) (hk : jfkAt ci f = some k) : f < r.2.2 ∧ (k = 0 → (r.2.1 f).2.2.2 = false ∧ parseFieldDescriptor (r.2.1 f).2.2.1 = some .int) ∧ (k = 1 → (r.2.1 f).2.2.2 = false ∧ parseFieldDescriptor (r.2.1 f).2.2.1 = some .boolean) ∧ (k = 2 → (r.2.1 f).2.2.2 = false ∧ parseFieldDescriptor (r.2.1 f).2.2.1 = some .long) ∧ (k = 3 → (r.2.1 f).2.2.2 = false ∧ ∃ n, parseFieldDescriptor (r.2.1 f).2.2.1 = some (.object n)) := by
  have hci : ci < 13 := (List.getElem?_eq_some_iff.mp hr).1
  have h1 := List.all_eq_true.mp jfk_all ci (List.mem_range.mpr hci)
  rw [hr] at h1
  rw [jfkAt] at hk
  cases hl : jfk[ci]? with
  | none => rw [hl] at hk; cases hk
  | some L =>
    rw [hl] at hk h1
    dsimp only at h1 hk
    rw [jfkB] at h1
    simp only [Bool.and_eq_true] at h1
    have hlen := Nat.eq_of_beq_eq_true h1.1
    have hf : f < r.2.2 := by rw [← hlen]; exact (List.getElem?_eq_some_iff.mp hk).1
    have h2 := List.all_eq_true.mp h1.2 f (List.mem_range.mpr hf)
    rw [hk] at h2
    refine ⟨hf, fun e => ?_, fun e => ?_, fun e => ?_, fun e => ?_⟩
    · subst e
      simp only [Bool.and_eq_true, Bool.not_eq_true', decide_eq_true_eq] at h2
      exact h2
    · subst e
      simp only [Bool.and_eq_true, Bool.not_eq_true', decide_eq_true_eq] at h2
      exact h2
    · subst e
      simp only [Bool.and_eq_true, Bool.not_eq_true', decide_eq_true_eq] at h2
      exact h2
    · subst e
      simp only [Bool.and_eq_true, Bool.not_eq_true'] at h2
      refine ⟨h2.1, ?_⟩
      have h3 := h2.2
      split at h3
      · next n hn => exact ⟨n, hn⟩
      · cases h3
def eNew (lo hi : Int) (F : Option aF) : aE := (lo, hi, F, 0, 0, 0, [])
/-- a new id of kind k on the stack -/
def aPush (k : Nat) (env : List aE) (fc : List aF) (loc : List (Option aV)) (stk : List aV) (ov : List aO) (pr : List Nat) (e : aE) : aS := (env ++ [e], fc, loc, (k, env.length, 0) :: stk, ov, pr)
/-- bounds and form of a sum, a difference; else anything -/
def aSum (mn mx : Int) (env : List aE) (fc : List aF) (x y : Nat) : Option aE := match aiv env fc x, aiv env fc y with
  | some a, some b => bif decide (mn ≤ a.1 + b.1) && decide (a.2 + b.2 ≤ mx) then some (eNew (a.1 + b.1) (a.2 + b.2) (some (fadd 1 (lin env x) (lin env y)))) else some (eNew mn mx none)
  | _, _ => none
def aDif (mn mx : Int) (env : List aE) (fc : List aF) (x y : Nat) : Option aE := match aiv env fc x, aiv env fc y with
  | some a, some b => bif decide (mn ≤ a.1 - b.2) && decide (a.2 - b.1 ≤ mx) then
      let F := fadd (-1) (lin env x) (lin env y)
      some (eNew (bif decide (a.1 - b.2 < 0) && ent env fc F then 0 else a.1 - b.2) (bif decide (0 < a.2 - b.1) && ent env fc (fmul (-1) F) then 0 else a.2 - b.1) (some F))
    else some (eNew mn mx none)
  | _, _ => none
def aMulC (env : List aE) (x : Nat) (a : Int × Int) (c : Int) : aE :=
  bif decide (0 ≤ c) then (bif decide ((-2147483648 : Int) ≤ a.1 * c) && decide (a.2 * c ≤ (2147483647 : Int)) then eNew (a.1 * c) (a.2 * c) (some (fmul c (lin env x))) else eNew (-2147483648 : Int) (2147483647 : Int) none)
  else (bif decide ((-2147483648 : Int) ≤ a.2 * c) && decide (a.1 * c ≤ (2147483647 : Int)) then eNew (a.2 * c) (a.1 * c) (some (fmul c (lin env x))) else eNew (-2147483648 : Int) (2147483647 : Int) none)
def aMul (env : List aE) (fc : List aF) (x y : Nat) : Option aE := match aiv env fc x, aiv env fc y with
  | some a, some b => bif decide (b.1 = b.2) then some (aMulC env x a b.1) else bif decide (a.1 = a.2) then some (aMulC env y b a.1) else some (eNew (-2147483648 : Int) (2147483647 : Int) none)
  | _, _ => none
def aDiv (env : List aE) (fc : List aF) (x y : Nat) : Option (aE × List aF) := match aiv env fc x, aiv env fc y with
  | some a, some b => bif decide (0 ≤ a.1) && decide (0 < b.1) then
      (bif decide (b.1 = b.2) then
        let F := fadd (-b.1) (lin env x) ([(env.length, 1)], 0)
        some ((a.1 / b.1, a.2 / b.1, none, 2, x, b.1, []), F :: fadd (-1) (fcon (b.1 - 1)) F :: fc)
      else some (eNew 0 a.2 none, fc))
    else bif decide (0 < b.1) then some (eNew (-2147483648 : Int) (2147483647 : Int) none, fc) else none
  | _, _ => none
def aQuo (x : Nat) (c : Int) : Nat → List aE → Option Nat
  | _, [] => none
  | k, e :: t => bif Nat.beq e.2.2.2.1 2 && Nat.beq e.2.2.2.2.1 x && decide (e.2.2.2.2.2.1 = c) then some k else aQuo x c (k + 1) t
def aRem (env : List aE) (fc : List aF) (x y : Nat) : Option aE := match aiv env fc x, aiv env fc y with
  | some a, some b => bif decide (0 < b.1) then
      (bif decide (0 ≤ a.1) && decide (b.1 = b.2) then
        some (eNew 0 (bif decide (a.2 < b.1) then a.2 else b.1 - 1) (bif decide (a.2 < b.1) then some (lin env x) else match aQuo x b.1 0 env with
          | some q => some (fadd (-b.1) (lin env x) ([(q, 1)], 0))
          | none => none))
      else bif decide (b.1 = b.2) then some (eNew (1 - b.1) (b.1 - 1) none) else some (eNew (-2147483648 : Int) (2147483647 : Int) none))
    else none
  | _, _ => none
/-- a quotient beside the remainder, where none is known -/
def aGh (env : List aE) (fc : List aF) (x y : Nat) : List aE × List aF := match aiv env fc x, aiv env fc y with
  | some a, some b => bif decide (0 ≤ a.1) && decide (0 < b.1) && decide (b.1 = b.2) && decide (b.1 ≤ a.2) && (aQuo x b.1 0 env).isNone then
      (env ++ [(a.1 / b.1, a.2 / b.1, none, 2, x, b.1, [])], fadd (-b.1) (lin env x) ([(env.length, 1)], 0) :: fadd (-1) (fcon (b.1 - 1)) (fadd (-b.1) (lin env x) ([(env.length, 1)], 0)) :: fc)
    else (env, fc)
  | _, _ => (env, fc)
def aAnd (env : List aE) (fc : List aF) (x y : Nat) : Option aE := match aiv env fc x, aiv env fc y with
  | some a, some b => bif decide (0 ≤ b.1) then some (eNew 0 (bif decide (0 ≤ a.1) && decide (a.2 < b.2) then a.2 else b.2) none) else bif decide (0 ≤ a.1) then some (eNew 0 a.2 none) else some (eNew (-2147483648 : Int) (2147483647 : Int) none)
  | _, _ => none
/-- the least 2^k - 1 that isn't below -/
def aCap (z : Int) : Option Int := [0, 1, 3, 7, 15, 31, 63, 127, 255, 511, 1023, 2047, 4095, 8191, 16383, 32767, 65535].find? (fun c => decide (z ≤ c))
def aOr (env : List aE) (fc : List aF) (x y : Nat) : Option aE := match aiv env fc x, aiv env fc y with
  | some a, some b => bif decide (0 ≤ a.1) && decide (0 ≤ b.1) then (match aCap a.2, aCap b.2 with
      | some c, some e => some (eNew 0 (bif decide (c < e) then e else c) none)
      | _, _ => some (eNew (-2147483648 : Int) (2147483647 : Int) none)) else some (eNew (-2147483648 : Int) (2147483647 : Int) none)
  | _, _ => none
def aShl (env : List aE) (fc : List aF) (x y : Nat) : Option aE := match aiv env fc x, aiv env fc y with
  | some a, some b => bif decide (0 ≤ a.1) && decide (b.1 = b.2) && decide (0 ≤ b.1) && decide (b.1 ≤ 30) then
      (bif decide (a.2 * 2 ^ b.1.toNat ≤ (2147483647 : Int)) then some (eNew (a.1 * 2 ^ b.1.toNat) (a.2 * 2 ^ b.1.toNat) none) else some (eNew (-2147483648 : Int) (2147483647 : Int) none)) else some (eNew (-2147483648 : Int) (2147483647 : Int) none)
  | _, _ => none
def aShr (env : List aE) (fc : List aF) (x y : Nat) : Option aE := match aiv env fc x, aiv env fc y with
  | some a, some b => bif decide (0 ≤ a.1) && decide (b.1 = b.2) && decide (0 ≤ b.1) && decide (b.1 ≤ 30) then some (eNew (a.1 / 2 ^ b.1.toNat) (a.2 / 2 ^ b.1.toNat) none) else some (eNew (-2147483648 : Int) (2147483647 : Int) none)
  | _, _ => none
def aNeg (env : List aE) (fc : List aF) (x : Nat) : Option aE := match aiv env fc x with
  | some a => bif decide ((-2147483647 : Int) ≤ a.1) then some (eNew (-a.2) (-a.1) (some (fmul (-1) (lin env x)))) else some (eNew (-2147483648 : Int) (2147483647 : Int) none)
  | none => none
/-- a condition of F against 0, from here on; none: it can't be -/
def cAsm (env : List aE) (fc : List aF) (c : ClassFile.Cond) (F : aF) : Option (List aE × List aF) := match c with
  | .ge => asm env fc F
  | .gt => asm env fc (fadd 1 F (fcon (-1)))
  | .le => asm env fc (fmul (-1) F)
  | .lt => asm env fc (fadd 1 (fmul (-1) F) (fcon (-1)))
  | .eq => match asm env fc F with
    | none => none
    | some q => asm q.1 q.2 (fmul (-1) F)
  | .ne => bif ent env fc F then asm env fc (fadd 1 F (fcon (-1))) else bif ent env fc (fmul (-1) F) then asm env fc (fadd 1 (fmul (-1) F) (fcon (-1))) else some (env, fc)
def cHolds (c : ClassFile.Cond) (z : Int) : Prop := match c with
  | .ge => 0 ≤ z | .gt => 0 < z | .le => z ≤ 0 | .lt => z < 0 | .eq => z = 0 | .ne => z ≠ 0
def cNeg : ClassFile.Cond → ClassFile.Cond
  | .ge => .lt | .gt => .le | .le => .gt | .lt => .ge | .eq => .ne | .ne => .eq
/-- all of these aren't negative -/
def asmA : List aF → List aE → List aF → Option (List aE × List aF)
  | [], env, fc => some (env, fc)
  | F :: t, env, fc => match asm env fc F with
    | none => none
    | some q => asmA t q.1 q.2
/-- an id that is tested against 0, with its tag -/
def tAsm (env : List aE) (fc : List aF) (c : ClassFile.Cond) (i : Nat) : Option (List aE × List aF) := match env[i]? with
  | none => none
  | some e => bif Nat.beq e.2.2.2.1 3 then (match e.2.2.2.2.2.2 with | [F] => cAsm env fc c F | _ => cAsm env fc c (lin env i)) else
    match cAsm env fc c (lin env i) with
    | none => none
    | some q => bif Nat.beq e.2.2.2.1 1 then (match c with
        | .ne => asmA e.2.2.2.2.2.2 q.1 q.2
        | .eq => (match e.2.2.2.2.2.2.filter (fun F => !ent q.1 q.2 F) with
          | [] => none
          | [F] => asm q.1 q.2 (fadd 1 (fmul (-1) F) (fcon (-1)))
          | _ => some q)
        | _ => some q)
      else some q
/-- an index within n: its bounds -/
def aIdx (env : List aE) (fc : List aF) (x n : Nat) : Option (Int × Int) := match aiv env fc x with
  | none => none
  | some a =>
    let lo := bif decide (a.1 < 0) && ent env fc (lin env x) then 0 else a.1
    let hi := bif decide ((n : Int) ≤ a.2) && ent env fc (fadd (-1) (fcon ((n : Int) - 1)) (lin env x)) then (n : Int) - 1 else a.2
    bif decide (0 ≤ lo) && decide (hi < (n : Int)) then some (lo, hi) else none
def sgHull : List (Int × Int) → Int × Int → Int × Int
  | [], a => a
  | q :: t, a => sgHull t (bif decide (q.1 < a.1) then q.1 else a.1, bif decide (a.2 < q.2) then q.2 else a.2)
def sgMeet : List (Int × Int) → Int × Int → Int × Int
  | [], a => a
  | q :: t, a => sgMeet t (bif decide (a.1 < q.1) then q.1 else a.1, bif decide (q.2 < a.2) then q.2 else a.2)
def sgRes (s : aSeg) (F : aF) : Option (Int × Int) := bif F.1.all (fun q => decide (q.2 % (s.2.2.1 : Int) = 0)) then s.2.2.2[((F.2 - (s.1 : Int)) % (s.2.2.1 : Int)).toNat]? else none
def sgFind (sg : List aSeg) (lo hi : Int) : Option aSeg := sg.find? (fun s => decide ((s.1 : Int) ≤ lo) && decide (hi < (s.1 : Int) + (s.2.1 : Int)) && Nat.blt 0 s.2.2.1 && Nat.beq s.2.2.2.length s.2.2.1)
/-- bounds of what is read at the places lo .. hi of form F -/
def sgL (sg : List aSeg) (F : aF) (lo hi : Int) : Int × Int := match sgFind sg lo hi with
  | none => ((-2147483648 : Int), (2147483647 : Int))
  | some s => match sgRes s F with
    | some q => q
    | none => (match s.2.2.2 with | [] => ((-2147483648 : Int), (2147483647 : Int)) | q :: t => sgHull t q)
/-- bounds of what may be written there -/
def sgS (sg : List aSeg) (F : aF) (lo hi : Int) : Option (Int × Int) := match sgFind sg lo hi with
  | none => none
  | some s => match sgRes s F with
    | some q => some q
    | none => (match s.2.2.2 with | [] => none | q :: t => some (sgMeet t q))
def aWithin (env : List aE) (fc : List aF) (x : Nat) (lo hi : Int) : Bool := match aiv env fc x with
  | none => false
  | some a => (decide (lo ≤ a.1) || ent env fc (fadd 1 (lin env x) (fcon (-lo)))) && (decide (a.2 ≤ hi) || ent env fc (fadd (-1) (fcon hi) (lin env x)))
def fEq (F G : aF) : Bool := decide (F = G)
def ovFind (B o : Nat) (F : aF) : List aO → Option Nat
  | [] => none
  | q :: t => bif Nat.beq q.1 B && Nat.beq q.2.1 o && fEq q.2.2.1 F then some q.2.2.2 else ovFind B o F t
/-- what is known of cells, those of W left out -/
def ovKill (TT : List (List aCT)) (env : List aE) (W : List aR) (ov : List aO) : List aO := ov.filter (fun q => Nat.blt q.2.1 (tyLen TT q.1) && W.all (fun w => !(Nat.beq q.1 w.1 && Nat.beq q.2.1 w.2.1) || (match flb env q.2.2.1, flb env (fmul (-1) q.2.2.1) with
  | some a, some b => decide (-b < w.2.2.1) || decide (w.2.2.2 < a)
  | _, _ => false)))
/-- a place's form, a number where it is one -/
def pForm (env : List aE) (x : Nat) (lo hi : Int) : aF := bif decide (lo = hi) then fcon lo else lin env x
def jfind (l : List (Nat × Nat × Nat × Nat)) (own i : Nat) : Option (Nat × Nat) := match l.find? (fun q => Nat.beq q.2.1 i && Nat.beq q.1 own) with
  | some q => some q.2.2
  | none => none
/-- reading an int's place -/
def aRead (env : List aE) (fc : List aF) (loc : List (Option aV)) (stk : List aV) (ov : List aO) (pr : List Nat) (B o : Nat) (F : aF) (lo hi : Int) : aS := match ovFind B o F ov with
  | some i => (env, fc, loc, (0, i, 0) :: stk, ov, pr)
  | none => (env ++ [eNew lo hi none], fc, loc, (0, env.length, 0) :: stk, (B, o, F, env.length) :: ov, pr)
def aGet (TT : List (List aCT)) (env : List aE) (fc : List aF) (loc : List (Option aV)) (stk : List aV) (ov : List aO) (pr : List Nat) (B o ci f : Nat) : Option aS := match tyAt TT B o with
  | some (.inr q) => bif Nat.beq q.1 ci then (match q.2[f]? with
      | some t => (match t.1 with
        | 0 => some (aRead env fc loc stk ov pr B o (fcon f) t.2.1 t.2.2.1)
        | 1 => some (env ++ [eNew t.2.1 t.2.2.1 none], fc, loc, (1, env.length, 0) :: stk, ov, pr)
        | 2 => some (env, fc, loc, (2, t.2.2.2.1, t.2.2.2.2) :: stk, ov, pr)
        | 3 => some (env, fc, loc, (bif pr.contains t.2.2.2.1 then 2 else 4, t.2.2.2.1, t.2.2.2.2) :: stk, ov, pr)
        | _ => none)
      | none => none) else none
  | _ => none
/-- W is what the method may write; P what it may not write by itself -/
def aPut (TT : List (List aCT)) (W P : List aR) (env : List aE) (fc : List aF) (loc : List (Option aV)) (stk : List aV) (ov : List aO) (pr : List Nat) (B o ci f : Nat) (v : aV) : Option aS := match tyAt TT B o with
  | some (.inr q) => bif Nat.beq q.1 ci && subW [(B, o, (f : Int), (f : Int))] W && apW [(B, o, (f : Int), (f : Int))] P then (match q.2[f]? with
      | some t => (match t.1, v.1 with
        | 0, 0 => bif aWithin env fc v.2.1 t.2.1 t.2.2.1 && fkI (jfkAt ci f) t.2.1 t.2.2.1 then some (env, fc, loc, stk, (B, o, fcon f, v.2.1) :: ovKill TT env [(B, o, (f : Int), (f : Int))] ov, pr) else none
        | 1, 1 => bif aWithin env fc v.2.1 t.2.1 t.2.2.1 && fkJ (jfkAt ci f) then some (env, fc, loc, stk, ovKill TT env [(B, o, (f : Int), (f : Int))] ov, pr) else none
        | 2, 2 => bif Nat.beq v.2.1 t.2.2.2.1 && Nat.beq v.2.2 t.2.2.2.2 && fkR (jfkAt ci f) then some (env, fc, loc, stk, ovKill TT env [(B, o, (f : Int), (f : Int))] ov, pr) else none
        | _, _ => none)
      | none => none) else none
  | _ => none
def aAld (TT : List (List aCT)) (ty : Nat) (env : List aE) (fc : List aF) (loc : List (Option aV)) (stk : List aV) (ov : List aO) (pr : List Nat) (B o x : Nat) : Option aS := match tyAt TT B o with
  | some (.inl q) => bif Nat.beq q.1 ty then (match aIdx env fc x q.2.1 with
      | some a => let b := sgL q.2.2 (pForm env x a.1 a.2) a.1 a.2
        some (aRead env fc loc stk ov pr B o (pForm env x a.1 a.2) b.1 b.2)
      | none => none) else none
  | _ => none
def aAst (TT : List (List aCT)) (W P : List aR) (ty : Nat) (env : List aE) (fc : List aF) (loc : List (Option aV)) (stk : List aV) (ov : List aO) (pr : List Nat) (B o x v : Nat) : Option aS := match tyAt TT B o with
  | some (.inl q) => bif Nat.beq q.1 ty then (match aIdx env fc x q.2.1 with
      | some a => (match sgS q.2.2 (pForm env x a.1 a.2) a.1 a.2 with
        | some b => bif aWithin env fc v b.1 b.2 && (Nat.beq ty 0 || aWithin env fc v 0 1) && subW [(B, o, a.1, a.2)] W && apW [(B, o, a.1, a.2)] P then
            some (env, fc, loc, stk, (B, o, pForm env x a.1 a.2, v) :: ovKill TT env [(B, o, a.1, a.2)] ov, pr) else none
        | none => none)
      | none => none) else none
  | _ => none
/-! SPECS of locals: none, or (kind, lo, hi, B, o); of cells: (B, o, place, lo, hi) -/
abbrev aC : Type := Nat × Nat × Nat × Int × Int
/-- answers: (9, ..) nothing; (0, lo, hi, _, _, forms) an int, with forms a test; (2, _, _, B, o, _) a cell; (5, lo, n, s, _) lo + s t, t = 0 .. n -/
abbrev aQ : Type := Nat × Int × Int × Nat × Nat × List aF
/-- contracts: (y, locals, cells, facts; answers; cells behind it, facts behind it; written; depth, cells and slots made) -/
abbrev aK : Type := Nat × List (Option aT) × List aC × List aF × List aQ × List aC × List aF × List aR × Nat × Nat × Nat
/-- a none behind each long -/
def spMk : List (Option aT) → List (Option aT)
  | [] => []
  | none :: t => none :: spMk t
  | some q :: t => bif Nat.beq q.1 1 then some q :: none :: spMk t else some q :: spMk t
def spFit (sp : List (Option aT)) (n : Nat) : Bool := decide (sp = spMk (sp.filter (fun q => q.isSome)) ++ List.replicate (n - (spMk (sp.filter (fun q => q.isSome))).length) none) && Nat.ble (spMk (sp.filter (fun q => q.isSome))).length n
def spEnv : List (Option aT) → List aE
  | [] => []
  | none :: t => spEnv t
  | some q :: t => bif Nat.ble q.1 1 then eNew q.2.1 q.2.2.1 none :: spEnv t else spEnv t
def spLoc : Nat → List (Option aT) → List (Option aV)
  | _, [] => []
  | n, none :: t => none :: spLoc n t
  | n, some q :: t => bif Nat.ble q.1 1 then some (q.1, n, 0) :: spLoc (n + 1) t else some (q.1, q.2.2.2.1, q.2.2.2.2) :: spLoc n t
def clEnv (cl : List aC) : List aE := cl.map (fun q => eNew q.2.2.2.1 q.2.2.2.2 none)
def clOv : Nat → List aC → List aO
  | _, [] => []
  | n, q :: t => (q.1, q.2.1, fcon q.2.2.1, n) :: clOv (n + 1) t
/-- the state of a spec, behind the entries pre -/
def spState (pre : List aE) (sp : List (Option aT)) (cl : List aC) (fc : List aF) (pr : List Nat) : aS :=
  (pre ++ spEnv sp ++ clEnv cl, fc, spLoc pre.length sp, [], clOv (pre.length + (spEnv sp).length) cl, pr)
/-- the ids of what a spec wants; none: it isn't so -/
def spIds (env : List aE) (fc : List aF) : List (Option aV) → List (Option aT) → Option (List Nat)
  | _, [] => some []
  | [], none :: t => spIds env fc [] t
  | [], some _ :: _ => none
  | _ :: u, none :: t => spIds env fc u t
  | none :: _, some _ :: _ => none
  | some v :: u, some q :: t => match spIds env fc u t with
    | none => none
    | some l => match q.1 with
      | 0 => bif Nat.beq v.1 0 && aWithin env fc v.2.1 q.2.1 q.2.2.1 then some (v.2.1 :: l) else none
      | 1 => bif Nat.beq v.1 1 && aWithin env fc v.2.1 q.2.1 q.2.2.1 then some (v.2.1 :: l) else none
      | 2 => bif Nat.beq v.1 2 && Nat.beq v.2.1 q.2.2.2.1 && Nat.beq v.2.2 q.2.2.2.2 then some l else none
      | 3 => bif Nat.beq v.1 3 then some l else none
      | _ => none
/-- the cells of a spec read, one after another: state and ids -/
def clIds (TT : List (List aCT)) : List aC → List aE → List aO → List aF → Option (List aE × List aO × List Nat)
  | [], env, ov, _ => some (env, ov, [])
  | q :: t, env, ov, fc => match ovFind q.1 q.2.1 (fcon q.2.2.1) ov with
    | some i => bif aWithin env fc i q.2.2.2.1 q.2.2.2.2 then (match clIds TT t env ov fc with
        | some r => some (r.1, r.2.1, i :: r.2.2)
        | none => none) else none
    | none => match tyAt TT q.1 q.2.1 with
      | some (.inr o) => (match o.2[q.2.2.1]? with
        | some ty => bif Nat.ble q.1 1 && Nat.beq ty.1 0 && decide (q.2.2.2.1 ≤ ty.2.1) && decide (ty.2.2.1 ≤ q.2.2.2.2) then
            (match clIds TT t (env ++ [eNew ty.2.1 ty.2.2.1 none]) ((q.1, q.2.1, fcon q.2.2.1, env.length) :: ov) fc with
            | some r => some (r.1, r.2.1, env.length :: r.2.2)
            | none => none) else none
        | none => none)
      | some (.inl a) => bif Nat.ble q.1 1 && Nat.blt q.2.2.1 a.2.1 && decide (q.2.2.2.1 ≤ (sgL a.2.2 (fcon q.2.2.1) q.2.2.1 q.2.2.1).1) && decide ((sgL a.2.2 (fcon q.2.2.1) q.2.2.1 q.2.2.1).2 ≤ q.2.2.2.2) then
          (match clIds TT t (env ++ [eNew (sgL a.2.2 (fcon q.2.2.1) q.2.2.1 q.2.2.1).1 (sgL a.2.2 (fcon q.2.2.1) q.2.2.1 q.2.2.1).2 none]) ((q.1, q.2.1, fcon q.2.2.1, env.length) :: ov) fc with
          | some r => some (r.1, r.2.1, env.length :: r.2.2)
          | none => none) else none
      | none => none
/-- a form over other ids -/
def fsubl (env : List aE) (m : List Nat) : List (Nat × Int) → Option aF
  | [] => some ([], 0)
  | q :: t => match m[q.1]?, fsubl env m t with
    | some i, some F => some (fadd q.2 F (lin env i))
    | _, _ => none
def fsub (env : List aE) (m : List Nat) (F : aF) : Option aF := match fsubl env m F.1 with
  | some G => some (fadd 1 G (fcon F.2))
  | none => none
def entA (env : List aE) (fc : List aF) (m : List Nat) (l : List aF) : Bool := l.all (fun F => match fsub env m F with
  | some G => ent2 env fc G
  | none => false)
def fsubA (env : List aE) (m : List Nat) : List aF → Option (List aF)
  | [] => some []
  | F :: t => match fsub env m F, fsubA env m t with
    | some G, some l => some (G :: l)
    | _, _ => none
def tgN : List aF → Nat
  | [] => 0
  | _ => 1
/-- one answer of a contract, in the caller's state behind it -/
def aAns (env : List aE) (fc : List aF) (loc : List (Option aV)) (stk : List aV) (ov : List aO) (pr : List Nat) (m : List Nat) (post : List aF) (q : aQ) : Option aS := match q.1 with
  | 0 => (match fsubA env m q.2.2.2.2.2 with
    | none => none
    | some ts => match fsubA (env ++ [(q.2.1, q.2.2.1, none, tgN ts, 0, 0, ts)]) (m ++ [env.length]) post with
      | none => none
      | some ps => some (env ++ [(q.2.1, q.2.2.1, none, tgN ts, 0, 0, ts)], ps ++ fc, loc, (0, env.length, 0) :: stk, ov, pr))
  | 2 => (match fsubA env m post with
    | none => none
    | some ps => some (env, ps ++ fc, loc, (2, q.2.2.2.1, q.2.2.2.2.1) :: stk, ov, pr))
  | 5 => (match fsubA (env ++ [eNew 0 q.2.2.1 none, eNew q.2.1 (q.2.1 + q.2.2.2.1 * q.2.2.1) (some ([(env.length, (q.2.2.2.1 : Int))], q.2.1))]) (m ++ [env.length + 1]) post with
    | none => none
    | some ps => some (env ++ [eNew 0 q.2.2.1 none, eNew q.2.1 (q.2.1 + q.2.2.2.1 * q.2.2.1) (some ([(env.length, (q.2.2.2.1 : Int))], q.2.1))], ps ++ fc, loc, (0, env.length + 1, 0) :: stk, ov, pr))
  | 9 => (match fsubA env m post with
    | none => none
    | some ps => some (env, ps ++ fc, loc, stk, ov, pr))
  | _ => none
def aAnsA (env : List aE) (fc : List aF) (loc : List (Option aV)) (stk : List aV) (ov : List aO) (pr : List Nat) (m : List Nat) (post : List aF) : List aQ → Option (List aS)
  | [] => some []
  | q :: t => match aAns env fc loc stk ov pr m post q, aAnsA env fc loc stk ov pr m post t with
    | some S, some l => some (S :: l)
    | _, _ => none
def catS (stk : List aV) : Nat := match stk with
  | [] => 0
  | v :: t => (bif Nat.beq v.1 1 then 2 else 1) + catS t
/-- ints of a contract that go by steps: (number, from, step); an int's spec (0, lo, hi, s, _) with 1 < s wants lo + s t -/
def spSd : Nat → List (Option aT) → List (Nat × Int × Nat)
  | _, [] => []
  | n, none :: t => spSd n t
  | n, some q :: t => bif Nat.ble q.1 1 then (bif Nat.blt 1 q.2.2.2.1 then (n, q.2.1, q.2.2.2.1) :: spSd (n + 1) t else spSd (n + 1) t) else spSd n t
def stepB (env : List aE) (i : Nat) (lo : Int) (s : Nat) : Bool := (lin env i).1.all (fun r => decide (r.2 % (s : Int) = 0)) && decide (((lin env i).2 - lo) % (s : Int) = 0)
def stepsB (env : List aE) (pids : List Nat) (l : List (Nat × Int × Nat)) : Bool := l.all (fun q => match pids[q.1]? with
  | some i => stepB env i q.2.1 q.2.2
  | none => false)
/-- a contract at a call -/
def aApp (TT : List (List aCT)) (W : List aR) (d : Nat) (K : aK) (env : List aE) (fc : List aF) (loc : List (Option aV)) (stk : List aV) (ov : List aO) (pr : List Nat) (as : List aV) : Option (List aS) :=
  match spIds env fc (as.map some) (K.2.1.filter (fun q => q.isSome)) with
  | none => none
  | some pids => match clIds TT K.2.2.1 env ov fc with
    | none => none
    | some r => bif spFit K.2.1 (jmx K.1) && Nat.beq as.length (K.2.1.filter (fun q => q.isSome)).length && entA r.1 fc (pids ++ r.2.2) K.2.2.2.1 && subW K.2.2.2.2.2.2.2.1 W && Nat.ble (K.2.2.2.2.2.2.2.2.1 + 1) d && Nat.ble (catS stk) 8 && stk.all (fun v => Nat.ble v.1 3) && stepsB env pids (spSd 0 K.2.1) then
        aAnsA (r.1 ++ clEnv K.2.2.2.2.2.1) fc (lo4 loc) stk (clOv r.1.length K.2.2.2.2.2.1 ++ ovKill TT r.1 K.2.2.2.2.2.2.2.1 r.2.1) pr (pids ++ r.2.2 ++ (List.range K.2.2.2.2.2.1.length).map (fun j => r.1.length + j)) K.2.2.2.2.2.2.1 K.2.2.2.2.1
      else none
/-- the first contract of y2, below the number n, that can be had -/
def aCall (TT : List (List aCT)) (KT : List aK) (W : List aR) (d n y2 kc ks : Nat) (env : List aE) (fc : List aF) (loc : List (Option aV)) (stk : List aV) (ov : List aO) (pr : List Nat) (as : List aV) : List Nat → Option (Nat × Nat × List aS)
  | [] => none
  | k :: t => match KT[k]? with
    | none => none
    | some K => bif Nat.blt k n && Nat.beq K.1 y2 && Nat.ble K.2.2.2.2.2.2.2.2.2.1 kc && Nat.ble K.2.2.2.2.2.2.2.2.2.2 ks then
        (match aApp TT W d K env fc loc stk ov pr as with
        | some l => some (kc - K.2.2.2.2.2.2.2.2.2.1, ks - K.2.2.2.2.2.2.2.2.2.2, l)
        | none => aCall TT KT W d n y2 kc ks env fc loc stk ov pr as t)
      else aCall TT KT W d n y2 kc ks env fc loc stk ov pr as t
def jfind3 (l : List (Nat × Nat × Nat)) (own i : Nat) : Option Nat := match l.find? (fun q => Nat.beq q.2.1 i && Nat.beq q.1 own) with
  | some q => some q.2.2
  | none => none
def aSt1 (loc : List (Option aV)) (i : Nat) (v : aV) : List (Option aV) :=
  (match i with | 0 => loc | k + 1 => match loc[k]? with | some (some w) => bif Nat.beq w.1 1 then loc.set k none else loc | _ => loc).set i (some v)
def aSt2 (loc : List (Option aV)) (i : Nat) (v : aV) : List (Option aV) :=
  ((match i with | 0 => loc | k + 1 => match loc[k]? with | some (some w) => bif Nat.beq w.1 1 then loc.set k none else loc | _ => loc).set (i + 1) none).set i (some v)
def tgtN (pc : Nat) (off : Int) : Nat := ((pc : Int) + off).toNat
/-- the state in which B is there: what was 'a cell of B or null' is that cell -/
def aPres (env : List aE) (fc : List aF) (loc : List (Option aV)) (stk : List aV) (ov : List aO) (pr : List Nat) (B : Nat) : aS := (env, fc, loc, stk, ov, B :: pr)
def aBr (q : Option (List aE × List aF)) (pc : Nat) (loc : List (Option aV)) (stk : List aV) (ov : List aO) (pr : List Nat) (kc ks : Nat) : List (Nat × aS × Nat × Nat) := match q with
  | some r => [(pc, (r.1, r.2, loc, stk, ov, pr), kc, ks)]
  | none => []
/-- the ways of a switch on the id i: the numbers from lo on with their offsets -/
def aSw (env : List aE) (fc : List aF) (pc : Nat) (loc : List (Option aV)) (stk : List aV) (ov : List aO) (pr : List Nat) (kc ks i : Nat) : Int → List Int → List (Nat × aS × Nat × Nat)
  | _, [] => []
  | lo, o :: t => aBr (cAsm env fc .eq (fadd 1 (lin env i) (fcon (-lo)))) (tgtN pc o) loc stk ov pr kc ks ++ aSw env fc pc loc stk ov pr kc ks i (lo + 1) t
/-- the ways of a lookupswitch: its pairs -/
def aSwL (env : List aE) (fc : List aF) (pc : Nat) (loc : List (Option aV)) (stk : List aV) (ov : List aO) (pr : List Nat) (kc ks i : Nat) : List (Int × Int) → List (Nat × aS × Nat × Nat)
  | [] => []
  | q :: t => aBr (cAsm env fc .eq (fadd 1 (lin env i) (fcon (-q.1)))) (tgtN pc q.2) loc stk ov pr kc ks ++ aSwL env fc pc loc stk ov pr kc ks i t
/-- what the checker is given of a method: (types, contracts, contracts by method; written, not to be written; method, its class, depth, its contract's number) -/
abbrev aM : Type := List (List aCT) × List aK × List (List Nat) × List aR × List aR × Nat × Nat × Nat × Nat
def aInv (M : aM) (pc kc ks y2 : Nat) (env : List aE) (fc : List aF) (loc : List (Option aV)) (stk : List aV) (ov : List aO) (pr : List Nat) (n : Nat) : Option (List (Nat × aS × Nat × Nat)) :=
  bif Nat.ble n stk.length then (match M.2.2.1[y2]? with
    | none => none
    | some ks2 => match aCall M.1 M.2.1 M.2.2.2.1 M.2.2.2.2.2.2.2.1 M.2.2.2.2.2.2.2.2 y2 kc ks env fc loc (stk.drop n) ov pr (stk.take n).reverse ks2 with
      | none => none
      | some r => some (r.2.2.map (fun S => (pc + 3, S, r.1, r.2.1)))) else none
/-- the class of each method, among jcl -/
def jyo : List Nat := [11, 99, 7, 0, 5, 4, 99, 10, 1, 99, 6, 8, 3, 11, 11, 11, 11, 11, 11, 11, 11, 11, 7, 0, 4, 7, 5, 0, 5, 0, 7, 7, 10, 11, 11, 7, 11, 11, 11, 11, 11, 10, 11, 11, 11, 11, 11, 4, 4, 99, 11, 7, 99, 11, 11, 11, 11, 11, 11, 3, 3, 3, 3, 3, 99, 99, 99, 99, 99, 99, 99, 99, 99, 99, 99, 3, 3, 3, 3, 5, 3, 3, 3, 3, 3, 3, 3, 3, 5, 5, 3, 5, 7, 11, 11, 11, 9, 9, 0, 9, 9, 9, 9, 9, 9, 9, 9, 9, 9, 11, 11, 9, 11, 9, 11, 9, 11, 9, 9, 11, 9, 9, 11, 9, 9, 11, 1, 11, 11, 6, 11, 11, 6, 6, 11, 11, 2, 2, 2, 2, 1, 1, 1, 2, 2, 2, 2, 6, 2, 2, 2, 2, 11, 2, 11, 6, 11, 8, 11, 7, 8, 99, 11, 11, 7, 8, 11, 7, 11, 7, 11, 7, 0, 1, 11, 7, 8, 8, 11, 11, 11, 11, 11, 11, 11, 7, 7, 11, 7, 11, 7, 0, 0, 11, 7, 4, 10, 1, 6, 8, 11, 11, 11, 12, 12, 12, 12, 12, 12, 12, 12, 12, 12, 12, 12, 12, 12, 12, 12, 12, 12, 12, 12, 12, 12, 12, 12, 12, 12, 12, 12, 12, 12, 12, 12, 12, 12, 12, 12, 12, 12, 12, 12, 12, 12, 12, 12, 12, 12, 12, 12, 12, 12, 12, 12, 12, 12, 12, 12, 12, 12, 12, 12, 12, 12, 12, 12, 12, 12, 12, 12, 12, 12, 12, 12, 12, 12, 12, 12, 12, 12, 12, 12, 12, 12, 12, 12, 12, 12, 12, 12, 12, 12, 12, 12, 12, 12, 12, 12, 12, 12, 12, 12, 12, 12, 12, 12, 12, 12, 12, 12, 12, 12, 12, 12]
/-- the receiver is of the method's class -/
def aRcv (TT : List (List aCT)) (y2 : Nat) (stk : List aV) : Bool := match stk[jnp y2]? with
  | some v => Nat.beq v.1 2 && (match tyAt TT v.2.1 v.2.2 with
    | some (.inr q) => Nat.beq q.1 (jyo.getD y2 99)
    | _ => false)
  | none => false
/-- arraycopy: between two arrays of ints, all of the second's bounds hold what the first may hold -/
def cpTy (n0 : Nat) (s0 s1 : List aSeg) : Bool := match s0 with
  | [(0, n, 1, [b])] => Nat.beq n n0 && s1.all (fun s => s.2.2.2.all (fun q => decide (q.1 ≤ b.1) && decide (b.2 ≤ q.2)))
  | _ => false
def aCpy (TT : List (List aCT)) (W P : List aR) (env : List aE) (fc : List aF) (loc : List (Option aV)) (stk : List aV) (ov : List aO) (pr : List Nat) (B0 o0 B1 o1 sp dp n : Nat) : Option aS := match tyAt TT B0 o0, tyAt TT B1 o1 with
  | some (.inl q0), some (.inl q1) => bif Nat.beq q0.1 0 && Nat.beq q1.1 0 && aWithin env fc sp 0 2147483647 && aWithin env fc dp 0 2147483647 && aWithin env fc n 0 2147483647 && ent env fc (fadd (-1) (fadd (-1) (fcon (q0.2.1 : Nat)) (lin env sp)) (lin env n)) && ent env fc (fadd (-1) (fadd (-1) (fcon (q1.2.1 : Nat)) (lin env dp)) (lin env n)) && cpTy q0.2.1 q0.2.2 q1.2.2 && subW [(B1, o1, 0, (q1.2.1 : Int) - 1)] W && apW [(B1, o1, 0, (q1.2.1 : Int) - 1)] P then
      some (env, fc, loc, stk, ovKill TT env [(B1, o1, 0, (q1.2.1 : Int) - 1)] ov, pr) else none
  | _, _ => none
def isCp (own j : Nat) : Bool := jcp.any (fun q => Nat.beq q.1 own && Nat.beq q.2 j)
def one (pc : Nat) (S : Option aS) (kc ks : Nat) : Option (List (Nat × aS × Nat × Nat)) := match S with
  | some S => some [(pc, S, kc, ks)]
  | none => none
def aCpyS (M : aM) (pc kc ks : Nat) (env : List aE) (fc : List aF) (loc : List (Option aV)) (stk : List aV) (ov : List aO) (pr : List Nat) : Option (List (Nat × aS × Nat × Nat)) := match stk with
  | n :: dp :: w1 :: sp :: w0 :: stk => bif Nat.beq n.1 0 && Nat.beq dp.1 0 && Nat.beq w1.1 2 && Nat.beq sp.1 0 && Nat.beq w0.1 2 && Nat.ble 1 M.2.2.2.2.2.2.2.1 && Nat.ble (catS stk) 8 then one (pc + 3) (aCpy M.1 M.2.2.2.1 M.2.2.2.2.1 env fc loc stk ov pr w0.2.1 w0.2.2 w1.2.1 w1.2.2 sp.2.1 dp.2.1 n.2.1) kc ks else none
  | _ => none
/-- a static call: its method, linked plainly or within the nest -/
def jfindS (own j : Nat) : Option Nat := match jfind3 jeM own j with
  | some y => some y
  | none => jfind3 jeN own j
/-- Math.min, Math.abs -/
def aMin (env : List aE) (fc : List aF) (x z : Nat) : Option (aE × List aF) := match aiv env fc x, aiv env fc z with
  | some a, some b => some (eNew (bif decide (a.1 < b.1) then a.1 else b.1) (bif decide (a.2 < b.2) then a.2 else b.2) none, fadd (-1) (lin env x) ([(env.length, 1)], 0) :: fadd (-1) (lin env z) ([(env.length, 1)], 0) :: fc)
  | _, _ => none
def aAbs (env : List aE) (fc : List aF) (x : Nat) : Option aE := match aiv env fc x with
  | some a => bif decide ((-2147483648 : Int) < a.1) then some (eNew 0 (bif decide (a.2 < -a.1) then -a.1 else a.2) none) else some (eNew (-2147483648 : Int) (2147483647 : Int) none)
  | none => none
def aMinS (M : aM) (pc kc ks : Nat) (env : List aE) (fc : List aF) (loc : List (Option aV)) (stk : List aV) (ov : List aO) (pr : List Nat) : Option (List (Nat × aS × Nat × Nat)) := match stk with
  | v :: w :: stk => bif Nat.beq v.1 0 && Nat.beq w.1 0 && Nat.ble 1 M.2.2.2.2.2.2.2.1 && Nat.ble (catS stk) 8 then (match aMin env fc w.2.1 v.2.1 with
      | some q => one (pc + 3) (some (env ++ [q.1], q.2, loc, (0, env.length, 0) :: stk, ov, pr)) kc ks
      | none => none) else none
  | _ => none
def aAbsS (M : aM) (pc kc ks : Nat) (env : List aE) (fc : List aF) (loc : List (Option aV)) (stk : List aV) (ov : List aO) (pr : List Nat) : Option (List (Nat × aS × Nat × Nat)) := match stk with
  | v :: stk => bif Nat.beq v.1 0 && Nat.ble 1 M.2.2.2.2.2.2.2.1 && Nat.ble (catS stk) 8 then (match aAbs env fc v.2.1 with
      | some e => one (pc + 3) (some (env ++ [e], fc, loc, (0, env.length, 0) :: stk, ov, pr)) kc ks
      | none => none) else none
  | _ => none
def oneE (k : Nat) (pc : Nat) (e : Option aE) (env : List aE) (fc : List aF) (loc : List (Option aV)) (stk : List aV) (ov : List aO) (pr : List Nat) (kc ks : Nat) : Option (List (Nat × aS × Nat × Nat)) := match e with
  | some e => some [(pc, (env ++ [e], fc, loc, (k, env.length, 0) :: stk, ov, pr), kc, ks)]
  | none => none
def aLoad (k i : Nat) (pc : Nat) (env : List aE) (fc : List aF) (loc : List (Option aV)) (stk : List aV) (ov : List aO) (pr : List Nat) (kc ks : Nat) : Option (List (Nat × aS × Nat × Nat)) := match loc[i]? with
  | some (some v) => bif (match k with | 0 => Nat.beq v.1 0 | 1 => Nat.beq v.1 1 | _ => Nat.ble 2 v.1) then some [(pc, (env, fc, loc, v :: stk, ov, pr), kc, ks)] else none
  | _ => none
def aStep (M : aM) (pc kc ks : Nat) (i : Instr) (len : Nat) (env : List aE) (fc : List aF) (loc : List (Option aV)) (stk : List aV) (ov : List aO) (pr : List Nat) : Option (List (Nat × aS × Nat × Nat)) :=
  match i, stk with
  | .iconst n, stk => bif Nat.beq len 1 && decide (-1 ≤ n) && decide (n ≤ 5) then oneE 0 (pc + 1) (some (eNew n n (some (fcon n)))) env fc loc stk ov pr kc ks else none
  | .bipush n, stk => bif Nat.beq len 2 && decide (-128 ≤ n) && decide (n ≤ 127) then oneE 0 (pc + 2) (some (eNew n n (some (fcon n)))) env fc loc stk ov pr kc ks else none
  | .sipush n, stk => bif Nat.beq len 3 && decide (-32768 ≤ n) && decide (n ≤ 32767) then oneE 0 (pc + 3) (some (eNew n n (some (fcon n)))) env fc loc stk ov pr kc ks else none
  | .lconst n, stk => bif Nat.beq len 1 then oneE 1 (pc + 1) (some (eNew (n : Nat) (n : Nat) (some (fcon (n : Nat))))) env fc loc stk ov pr kc ks else none
  | .ldc j, stk => bif Nat.beq len 2 then (match jeV.find? (fun q => Nat.beq q.2.1 j && Nat.beq q.1 M.2.2.2.2.2.2.1) with
      | some q => oneE 0 (pc + 2) (some (eNew q.2.2.toInt q.2.2.toInt (some (fcon q.2.2.toInt)))) env fc loc stk ov pr kc ks
      | none => none) else none
  | .ldc_w j, stk => bif Nat.beq len 3 then (match jeV.find? (fun q => Nat.beq q.2.1 j && Nat.beq q.1 M.2.2.2.2.2.2.1) with
      | some q => oneE 0 (pc + 3) (some (eNew q.2.2.toInt q.2.2.toInt (some (fcon q.2.2.toInt)))) env fc loc stk ov pr kc ks
      | none => none) else none
  | .ldc2_w j, stk => bif Nat.beq len 3 then (match jeW.find? (fun q => Nat.beq q.2.1 j && Nat.beq q.1 M.2.2.2.2.2.2.1) with
      | some q => oneE 1 (pc + 3) (some (eNew q.2.2.toInt q.2.2.toInt (some (fcon q.2.2.toInt)))) env fc loc stk ov pr kc ks
      | none => none) else none
  | .aconst_null, stk => bif Nat.beq len 1 then one (pc + 1) (some (env, fc, loc, (3, 0, 0) :: stk, ov, pr)) kc ks else none
  | .iload_n k, stk => bif Nat.beq len 1 then aLoad 0 k (pc + 1) env fc loc stk ov pr kc ks else none
  | .iload k, stk => bif Nat.beq len 2 then aLoad 0 k (pc + 2) env fc loc stk ov pr kc ks else none
  | .lload_n k, stk => bif Nat.beq len 1 then aLoad 1 k (pc + 1) env fc loc stk ov pr kc ks else none
  | .lload k, stk => bif Nat.beq len 2 then aLoad 1 k (pc + 2) env fc loc stk ov pr kc ks else none
  | .aload_n k, stk => bif Nat.beq len 1 then aLoad 2 k (pc + 1) env fc loc stk ov pr kc ks else none
  | .aload k, stk => bif Nat.beq len 2 then aLoad 2 k (pc + 2) env fc loc stk ov pr kc ks else none
  | .istore_n k, v :: stk => bif Nat.beq len 1 && Nat.beq v.1 0 && Nat.blt k (jmx M.2.2.2.2.2.1) then one (pc + 1) (some (env, fc, aSt1 loc k v, stk, ov, pr)) kc ks else none
  | .istore k, v :: stk => bif Nat.beq len 2 && Nat.beq v.1 0 && Nat.blt k (jmx M.2.2.2.2.2.1) then one (pc + 2) (some (env, fc, aSt1 loc k v, stk, ov, pr)) kc ks else none
  | .astore_n k, v :: stk => bif Nat.beq len 1 && Nat.ble 2 v.1 && Nat.blt k (jmx M.2.2.2.2.2.1) then one (pc + 1) (some (env, fc, aSt1 loc k v, stk, ov, pr)) kc ks else none
  | .astore k, v :: stk => bif Nat.beq len 2 && Nat.ble 2 v.1 && Nat.blt k (jmx M.2.2.2.2.2.1) then one (pc + 2) (some (env, fc, aSt1 loc k v, stk, ov, pr)) kc ks else none
  | .lstore_n k, v :: stk => bif Nat.beq len 1 && Nat.beq v.1 1 && Nat.blt (k + 1) (jmx M.2.2.2.2.2.1) then one (pc + 1) (some (env, fc, aSt2 loc k v, stk, ov, pr)) kc ks else none
  | .lstore k, v :: stk => bif Nat.beq len 2 && Nat.beq v.1 1 && Nat.blt (k + 1) (jmx M.2.2.2.2.2.1) then one (pc + 2) (some (env, fc, aSt2 loc k v, stk, ov, pr)) kc ks else none
  | .iinc k n, stk => bif Nat.beq len 3 && Nat.blt k (jmx M.2.2.2.2.2.1) && decide (-32768 ≤ n) && decide (n ≤ 32767) then (match loc[k]? with
      | some (some v) => bif Nat.beq v.1 0 then (match aiv env fc v.2.1 with
          | some a => bif decide ((-2147483648 : Int) ≤ a.1 + n) && decide (a.2 + n ≤ (2147483647 : Int)) then one (pc + 3) (some (env ++ [eNew (a.1 + n) (a.2 + n) (some (fadd 1 (lin env v.2.1) (fcon n)))], fc, aSt1 loc k (0, env.length, 0), stk, ov, pr)) kc ks
              else one (pc + 3) (some (env ++ [eNew (-2147483648 : Int) (2147483647 : Int) none], fc, aSt1 loc k (0, env.length, 0), stk, ov, pr)) kc ks
          | none => none) else none
      | _ => none) else none
  | .iadd, v :: w :: stk => bif Nat.beq len 1 && Nat.beq v.1 0 && Nat.beq w.1 0 then oneE 0 (pc + 1) (aSum (-2147483648 : Int) (2147483647 : Int) env fc w.2.1 v.2.1) env fc loc stk ov pr kc ks else none
  | .isub, v :: w :: stk => bif Nat.beq len 1 && Nat.beq v.1 0 && Nat.beq w.1 0 then oneE 0 (pc + 1) (aDif (-2147483648 : Int) (2147483647 : Int) env fc w.2.1 v.2.1) env fc loc stk ov pr kc ks else none
  | .imul, v :: w :: stk => bif Nat.beq len 1 && Nat.beq v.1 0 && Nat.beq w.1 0 then oneE 0 (pc + 1) (aMul env fc w.2.1 v.2.1) env fc loc stk ov pr kc ks else none
  | .idiv, v :: w :: stk => bif Nat.beq len 1 && Nat.beq v.1 0 && Nat.beq w.1 0 then (match aDiv env fc w.2.1 v.2.1 with
      | some q => one (pc + 1) (some (env ++ [q.1], q.2, loc, (0, env.length, 0) :: stk, ov, pr)) kc ks
      | none => none) else none
  | .irem, v :: w :: stk => bif Nat.beq len 1 && Nat.beq v.1 0 && Nat.beq w.1 0 then oneE 0 (pc + 1) (aRem (aGh env fc w.2.1 v.2.1).1 (aGh env fc w.2.1 v.2.1).2 w.2.1 v.2.1) (aGh env fc w.2.1 v.2.1).1 (aGh env fc w.2.1 v.2.1).2 loc stk ov pr kc ks else none
  | .iand, v :: w :: stk => bif Nat.beq len 1 && Nat.beq v.1 0 && Nat.beq w.1 0 then oneE 0 (pc + 1) (aAnd env fc w.2.1 v.2.1) env fc loc stk ov pr kc ks else none
  | .ior, v :: w :: stk => bif Nat.beq len 1 && Nat.beq v.1 0 && Nat.beq w.1 0 then oneE 0 (pc + 1) (aOr env fc w.2.1 v.2.1) env fc loc stk ov pr kc ks else none
  | .ixor, v :: w :: stk => bif Nat.beq len 1 && Nat.beq v.1 0 && Nat.beq w.1 0 then oneE 0 (pc + 1) (aOr env fc w.2.1 v.2.1) env fc loc stk ov pr kc ks else none
  | .ishl, v :: w :: stk => bif Nat.beq len 1 && Nat.beq v.1 0 && Nat.beq w.1 0 then oneE 0 (pc + 1) (aShl env fc w.2.1 v.2.1) env fc loc stk ov pr kc ks else none
  | .ishr, v :: w :: stk => bif Nat.beq len 1 && Nat.beq v.1 0 && Nat.beq w.1 0 then oneE 0 (pc + 1) (aShr env fc w.2.1 v.2.1) env fc loc stk ov pr kc ks else none
  | .iushr, v :: w :: stk => bif Nat.beq len 1 && Nat.beq v.1 0 && Nat.beq w.1 0 then oneE 0 (pc + 1) (some (eNew (-2147483648 : Int) (2147483647 : Int) none)) env fc loc stk ov pr kc ks else none
  | .ineg, v :: stk => bif Nat.beq len 1 && Nat.beq v.1 0 then oneE 0 (pc + 1) (aNeg env fc v.2.1) env fc loc stk ov pr kc ks else none
  | .ladd, v :: w :: stk => bif Nat.beq len 1 && Nat.beq v.1 1 && Nat.beq w.1 1 then oneE 1 (pc + 1) (aSum (-9223372036854775808 : Int) (9223372036854775807 : Int) env fc w.2.1 v.2.1) env fc loc stk ov pr kc ks else none
  | .lsub, v :: w :: stk => bif Nat.beq len 1 && Nat.beq v.1 1 && Nat.beq w.1 1 then oneE 1 (pc + 1) (aDif (-9223372036854775808 : Int) (9223372036854775807 : Int) env fc w.2.1 v.2.1) env fc loc stk ov pr kc ks else none
  | .lmul, v :: w :: stk => bif Nat.beq len 1 && Nat.beq v.1 1 && Nat.beq w.1 1 then oneE 1 (pc + 1) (some (eNew (-9223372036854775808 : Int) (9223372036854775807 : Int) none)) env fc loc stk ov pr kc ks else none
  | .land, v :: w :: stk => bif Nat.beq len 1 && Nat.beq v.1 1 && Nat.beq w.1 1 then oneE 1 (pc + 1) (some (eNew (-9223372036854775808 : Int) (9223372036854775807 : Int) none)) env fc loc stk ov pr kc ks else none
  | .lor, v :: w :: stk => bif Nat.beq len 1 && Nat.beq v.1 1 && Nat.beq w.1 1 then oneE 1 (pc + 1) (some (eNew (-9223372036854775808 : Int) (9223372036854775807 : Int) none)) env fc loc stk ov pr kc ks else none
  | .lxor, v :: w :: stk => bif Nat.beq len 1 && Nat.beq v.1 1 && Nat.beq w.1 1 then oneE 1 (pc + 1) (some (eNew (-9223372036854775808 : Int) (9223372036854775807 : Int) none)) env fc loc stk ov pr kc ks else none
  | .lshl, v :: w :: stk => bif Nat.beq len 1 && Nat.beq v.1 0 && Nat.beq w.1 1 then oneE 1 (pc + 1) (some (eNew (-9223372036854775808 : Int) (9223372036854775807 : Int) none)) env fc loc stk ov pr kc ks else none
  | .lshr, v :: w :: stk => bif Nat.beq len 1 && Nat.beq v.1 0 && Nat.beq w.1 1 then oneE 1 (pc + 1) (some (eNew (-9223372036854775808 : Int) (9223372036854775807 : Int) none)) env fc loc stk ov pr kc ks else none
  | .lcmp, v :: w :: stk => bif Nat.beq len 1 && Nat.beq v.1 1 && Nat.beq w.1 1 then oneE 0 (pc + 1) (some (-1, 1, none, 3, 0, 0, [fadd (-1) (lin env w.2.1) (lin env v.2.1)])) env fc loc stk ov pr kc ks else none
  | .i2l, v :: stk => bif Nat.beq len 1 && Nat.beq v.1 0 then (match aiv env fc v.2.1 with
      | some a => oneE 1 (pc + 1) (some (eNew a.1 a.2 (some (lin env v.2.1)))) env fc loc stk ov pr kc ks
      | none => none) else none
  | .l2i, v :: stk => bif Nat.beq len 1 && Nat.beq v.1 1 then (match aiv env fc v.2.1 with
      | some a => bif decide ((-2147483648 : Int) ≤ a.1) && decide (a.2 ≤ (2147483647 : Int)) then oneE 0 (pc + 1) (some (eNew a.1 a.2 (some (lin env v.2.1)))) env fc loc stk ov pr kc ks else oneE 0 (pc + 1) (some (eNew (-2147483648 : Int) (2147483647 : Int) none)) env fc loc stk ov pr kc ks
      | none => none) else none
  | .dup, v :: stk => bif Nat.beq len 1 && !Nat.beq v.1 1 then one (pc + 1) (some (env, fc, loc, v :: v :: stk, ov, pr)) kc ks else none
  | .dup2, v :: w :: stk => bif Nat.beq len 1 && !Nat.beq v.1 1 && !Nat.beq w.1 1 then one (pc + 1) (some (env, fc, loc, v :: w :: v :: w :: stk, ov, pr)) kc ks else none
  | .pop, v :: stk => bif Nat.beq len 1 && !Nat.beq v.1 1 then one (pc + 1) (some (env, fc, loc, stk, ov, pr)) kc ks else none
  | .goto off, stk => bif Nat.beq len 3 && decide (0 ≤ (pc : Int) + off) then one (tgtN pc off) (some (env, fc, loc, stk, ov, pr)) kc ks else none
  | .if_icmp c off, v :: w :: stk => bif Nat.beq len 3 && decide (0 ≤ (pc : Int) + off) && Nat.beq v.1 0 && Nat.beq w.1 0 then
      some (aBr (cAsm env fc c (fadd (-1) (lin env w.2.1) (lin env v.2.1))) (tgtN pc off) loc stk ov pr kc ks ++ aBr (cAsm env fc (cNeg c) (fadd (-1) (lin env w.2.1) (lin env v.2.1))) (pc + 3) loc stk ov pr kc ks) else none
  | .ifCond c off, v :: stk => bif Nat.beq len 3 && decide (0 ≤ (pc : Int) + off) && Nat.beq v.1 0 then
      some (aBr (tAsm env fc c v.2.1) (tgtN pc off) loc stk ov pr kc ks ++ aBr (tAsm env fc (cNeg c) v.2.1) (pc + 3) loc stk ov pr kc ks) else none
  | .ifnull off, v :: stk => bif Nat.beq len 3 && decide (0 ≤ (pc : Int) + off) then (match v.1 with
      | 2 => one (pc + 3) (some (env, fc, loc, stk, ov, pr)) kc ks
      | 3 => one (tgtN pc off) (some (env, fc, loc, stk, ov, pr)) kc ks
      | 4 => some [(tgtN pc off, (env, fc, loc, stk, ov, pr), kc, ks), (pc + 3, (env, fc, loc.map (fun z => bif decide (z = some v) then some (2, v.2.1, v.2.2) else z), stk, ov, v.2.1 :: pr), kc, ks)]
      | _ => none) else none
  | .ifnonnull off, v :: stk => bif Nat.beq len 3 && decide (0 ≤ (pc : Int) + off) then (match v.1 with
      | 2 => one (tgtN pc off) (some (env, fc, loc, stk, ov, pr)) kc ks
      | 3 => one (pc + 3) (some (env, fc, loc, stk, ov, pr)) kc ks
      | 4 => some [(pc + 3, (env, fc, loc, stk, ov, pr), kc, ks), (tgtN pc off, (env, fc, loc.map (fun z => bif decide (z = some v) then some (2, v.2.1, v.2.2) else z), stk, ov, v.2.1 :: pr), kc, ks)]
      | _ => none) else none
  | .tableswitch dflt lo hi offs, v :: stk => bif Nat.beq v.1 0 && decide ((offs.toList.length : Int) = hi - lo + 1) && decide (0 ≤ (pc : Int) + dflt) && offs.toList.all (fun o => decide (0 ≤ (pc : Int) + o)) then
      some (aSw env fc pc loc stk ov pr kc ks v.2.1 lo offs.toList ++ (aBr (cAsm env fc .lt (fadd 1 (lin env v.2.1) (fcon (-lo)))) (tgtN pc dflt) loc stk ov pr kc ks ++ aBr (cAsm env fc .gt (fadd 1 (lin env v.2.1) (fcon (-hi)))) (tgtN pc dflt) loc stk ov pr kc ks)) else none
  | .lookupswitch dflt ps, v :: stk => bif Nat.beq v.1 0 && (ps.toList.zip (ps.toList.drop 1)).all (fun (a, next) => a.1 < next.1) && decide (0 ≤ (pc : Int) + dflt) && ps.toList.all (fun o => decide (0 ≤ (pc : Int) + o.2)) then
      some (aSwL env fc pc loc stk ov pr kc ks v.2.1 ps.toList ++ [(tgtN pc dflt, (env, fc, loc, stk, ov, pr), kc, ks)]) else none
  | .getfield j, v :: stk => bif Nat.beq len 3 && Nat.beq v.1 2 then (match jfind jeF M.2.2.2.2.2.2.1 j with
      | some q => one (pc + 3) (aGet M.1 env fc loc stk ov pr v.2.1 v.2.2 q.1 q.2) kc ks
      | none => none) else none
  | .putfield j, v :: w :: stk => bif Nat.beq len 3 && Nat.beq w.1 2 then (match jfind jeF M.2.2.2.2.2.2.1 j with
      | some q => one (pc + 3) (aPut M.1 M.2.2.2.1 M.2.2.2.2.1 env fc loc stk ov pr w.2.1 w.2.2 q.1 q.2 v) kc ks
      | none => none) else none
  | .iaload, v :: w :: stk => bif Nat.beq len 1 && Nat.beq v.1 0 && Nat.beq w.1 2 then one (pc + 1) (aAld M.1 0 env fc loc stk ov pr w.2.1 w.2.2 v.2.1) kc ks else none
  | .baload, v :: w :: stk => bif Nat.beq len 1 && Nat.beq v.1 0 && Nat.beq w.1 2 then one (pc + 1) (aAld M.1 1 env fc loc stk ov pr w.2.1 w.2.2 v.2.1) kc ks else none
  | .iastore, v :: x :: w :: stk => bif Nat.beq len 1 && Nat.beq v.1 0 && Nat.beq x.1 0 && Nat.beq w.1 2 then one (pc + 1) (aAst M.1 M.2.2.2.1 M.2.2.2.2.1 0 env fc loc stk ov pr w.2.1 w.2.2 x.2.1 v.2.1) kc ks else none
  | .bastore, v :: x :: w :: stk => bif Nat.beq len 1 && Nat.beq v.1 0 && Nat.beq x.1 0 && Nat.beq w.1 2 then one (pc + 1) (aAst M.1 M.2.2.2.1 M.2.2.2.2.1 1 env fc loc stk ov pr w.2.1 w.2.2 x.2.1 v.2.1) kc ks else none
  | .arraylength, w :: stk => bif Nat.beq len 1 && Nat.beq w.1 2 then (match tyAt M.1 w.2.1 w.2.2 with
      | some (.inl q) => bif Nat.ble q.1 1 && decide ((q.2.1 : Int) ≤ (2147483647 : Int)) then oneE 0 (pc + 1) (some (eNew q.2.1 q.2.1 (some (fcon q.2.1)))) env fc loc stk ov pr kc ks else none
      | _ => none) else none
  | .invokevirtual j, stk => bif Nat.beq len 3 then (match jfind3 jeM M.2.2.2.2.2.2.1 j with
      | some y2 => bif Nat.beq (jkd y2) 0 && Nat.blt y2 315 && aRcv M.1 y2 stk then aInv M pc kc ks y2 env fc loc stk ov pr (jnp y2 + 1) else none
      | none => none) else none
  | .invokestatic j, stk => bif Nat.beq len 3 then (bif isCp M.2.2.2.2.2.2.1 j then aCpyS M pc kc ks env fc loc stk ov pr else (match jfindS M.2.2.2.2.2.2.1 j with
      | some 49 => bif (jfind3 jeM M.2.2.2.2.2.2.1 j).isSome then aMinS M pc kc ks env fc loc stk ov pr else none
      | some 161 => bif (jfind3 jeM M.2.2.2.2.2.2.1 j).isSome then aAbsS M pc kc ks env fc loc stk ov pr else none
      | some y2 => bif Nat.beq (jkd y2) 1 && Nat.blt y2 315 then aInv M pc kc ks y2 env fc loc stk ov pr (jnp y2) else none
      | none => none)) else none
  | _, _ => none
