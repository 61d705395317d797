/-! CONSTRUCTORS: a run cell by cell, and that the machine goes so. A value: (0, z) an int, (1, a) the new cell a, (2, _) null, (3, z) a long; a cell: an array (type, length, default, what was stored), or an object. -/
abbrev cV : Type := Nat × Int
abbrev cC : Type := (Nat × Nat × Int × List (Nat × Nat × Int)) ⊕ (Nat × List cV)
def cval (g : jG) (B : Nat) (v : cV) : Value := match v.1 with
  | 0 => .int (Int32.ofInt v.2)
  | 1 => .ref (g.2.2 + (B + v.2.toNat))
  | 2 => .null
  | _ => .long (Int64.ofInt v.2)
/-- stored: (from, how many, what) -/
def clook (d : Int) : List (Nat × Nat × Int) → Nat → Int
  | [], _ => d
  | q :: t, i => bif Nat.ble q.1 i && Nat.blt i (q.1 + q.2.1) then q.2.2 else clook d t i
def ccel (g : jG) (B : Nat) (c : cC) : jC := match c with
  | .inl a => .inl (a.1, a.2.1, fun i => if i < a.2.1 then Int32.ofInt (clook a.2.2.1 a.2.2.2 i) else 0)
  | .inr o => .inr (o.1, o.2.map (cval g B))
def chp (g : jG) (h0 : jH) (H : List cC) : jH := h0 ++ H.map (ccel g h0.length)
def cL (g : jG) (B : Nat) (loc : List (Option cV)) : List (Option Value) := loc.map (Option.map (cval g B))
def cS (g : jG) (B : Nat) (stk : List cV) : List Value := stk.map (cval g B)
def cin (z : Int) : Bool := decide ((-2147483648 : Int) ≤ z) && decide (z ≤ (2147483647 : Int))
def cdef (ty : FieldType) : Option cV := match ty with
  | .int => some (0, 0)
  | .boolean => some (0, 0)
  | .long => some (3, 0)
  | .object _ => some (2, 0)
  | .array _ => some (2, 0)
  | _ => none
def cdfT : List (List cV) := [[(2, 0), (0, 0), (0, 0)], [(0, 0), (2, 0), (2, 0), (0, 0)], [(0, 0), (0, 0), (0, 0), (2, 0), (2, 0), (2, 0), (2, 0), (2, 0), (2, 0), (0, 0), (0, 0), (2, 0)], [(2, 0), (2, 0), (2, 0), (2, 0), (0, 0), (0, 0), (0, 0)], [(0, 0), (2, 0), (0, 0), (0, 0)], [(0, 0), (2, 0), (2, 0), (2, 0), (2, 0), (0, 0), (2, 0), (2, 0)], [(0, 0), (2, 0), (2, 0), (2, 0), (0, 0), (2, 0), (2, 0), (2, 0)], [(2, 0), (2, 0), (2, 0), (0, 0), (0, 0), (0, 0), (2, 0), (2, 0), (2, 0), (2, 0), (2, 0), (2, 0), (2, 0), (2, 0), (2, 0), (2, 0), (2, 0), (2, 0), (2, 0), (2, 0)], [(0, 0), (2, 0), (2, 0), (2, 0), (2, 0)], [(2, 0), (2, 0), (2, 0), (2, 0), (2, 0), (2, 0), (2, 0), (0, 0), (2, 0), (2, 0), (2, 0), (2, 0), (2, 0), (0, 0), (0, 0)], [(0, 0), (0, 0), (2, 0), (2, 0), (2, 0)], [(2, 0), (2, 0), (2, 0), (2, 0), (0, 0), (2, 0), (0, 0), (0, 0), (2, 0), (2, 0), (2, 0), (2, 0)], [(0, 0), (0, 0), (2, 0), (2, 0), (2, 0), (2, 0), (0, 0), (0, 0), (0, 0), (0, 0), (3, 0), (0, 0), (0, 0), (0, 0), (2, 0), (0, 0), (2, 0), (2, 0), (0, 0), (2, 0), (0, 0), (0, 0), (2, 0), (2, 0), (2, 0), (0, 0), (0, 0), (2, 0), (2, 0), (0, 0), (2, 0), (2, 0), (2, 0), (2, 0), (2, 0), (2, 0), (2, 0), (2, 0), (2, 0), (2, 0), (2, 0), (2, 0)]]
theorem cdfT_all : (List.range 13).all (fun ci => match jcl[ci]?, cdfT[ci]? with
  | some r, some l => Nat.beq l.length r.2.2 && decide (jcN ci = r.1) && jeO.contains ci && jeQ.contains ci && (List.range r.2.2).all (fun k => match parseFieldDescriptor (r.2.1 k).2.2.1 with
    | some ty => decide (cdef ty = l[k]?)
    | none => false)
  | _, _ => false) = true := by decide +kernel
def cput (r : vw_C) (f : Nat) (k : Nat) : Bool := match parseFieldDescriptor (r.2.1 f).2.2.1 with
  | some .int => Nat.beq k 0
  | some (.object _) => Nat.beq k 1
  | some (.array _) => Nat.beq k 1
  | _ => false
abbrev cN : Type := Nat × List (Option cV) × List cV × List cC × Nat × Nat
def clo (loc : List (Option cV)) : Bool := loc.all (fun q => match q with | some v => Nat.ble v.1 2 | none => true)
def cone (pc : Nat) (loc : List (Option cV)) (stk : List cV) (H : List cC) : Option cN := some (pc, loc, stk, H, 0, 0)
/-- a step that is no call -/
def cstep (y own pc : Nat) (i : Instr) (len : Nat) (loc : List (Option cV)) (stk : List cV) (H : List cC) : Option cN := match i, stk with
  | .iconst z, stk => bif Nat.beq len 1 then cone (pc + 1) loc ((0, z) :: stk) H else none
  | .bipush z, stk => bif Nat.beq len 2 && decide (-128 ≤ z) && decide (z ≤ 127) then cone (pc + 2) loc ((0, z) :: stk) H else none
  | .sipush z, stk => bif Nat.beq len 3 && decide (-32768 ≤ z) && decide (z ≤ 32767) then cone (pc + 3) loc ((0, z) :: stk) H else none
  | .ldc j, stk => bif Nat.beq len 2 then (match jeV.find? (fun q => Nat.beq q.2.1 j && Nat.beq q.1 own) with
      | some q => cone (pc + 2) loc ((0, q.2.2.toInt) :: stk) H
      | none => none) else none
  | .aload_n k, stk => bif Nat.beq len 1 then (match loc[(k : Nat)]? with
      | some (some v) => bif Nat.beq v.1 1 then cone (pc + 1) loc (v :: stk) H else none
      | _ => none) else none
  | .iload_n k, stk => bif Nat.beq len 1 then (match loc[(k : Nat)]? with
      | some (some v) => bif Nat.beq v.1 0 then cone (pc + 1) loc (v :: stk) H else none
      | _ => none) else none
  | .istore_n k, v :: stk => bif Nat.beq len 1 && Nat.beq v.1 0 && Nat.blt (k : Nat) (jmx y) && clo loc then cone (pc + 1) (loc.set (k : Nat) (some v)) stk H else none
  | .iinc k z, stk => bif Nat.beq len 3 && Nat.blt k (jmx y) && clo loc then (match loc[k]? with
      | some (some v) => bif Nat.beq v.1 0 then cone (pc + 3) (loc.set k (some (0, v.2 + z))) stk H else none
      | _ => none) else none
  | .dup, v :: stk => bif Nat.beq len 1 && Nat.ble v.1 2 then cone (pc + 1) loc (v :: v :: stk) H else none
  | .iadd, v :: w :: stk => bif Nat.beq len 1 && Nat.beq v.1 0 && Nat.beq w.1 0 then cone (pc + 1) loc ((0, w.2 + v.2) :: stk) H else none
  | .imul, v :: w :: stk => bif Nat.beq len 1 && Nat.beq v.1 0 && Nat.beq w.1 0 then cone (pc + 1) loc ((0, w.2 * v.2) :: stk) H else none
  | .goto off, stk => bif Nat.beq len 3 && decide (0 ≤ (pc : Int) + off) then cone (tgtN pc off) loc stk H else none
  | .if_icmp .ge off, v :: w :: stk => bif Nat.beq len 3 && Nat.beq v.1 0 && Nat.beq w.1 0 && cin v.2 && cin w.2 && decide (0 ≤ (pc : Int) + off) then (bif decide (v.2 ≤ w.2) then cone (tgtN pc off) loc stk H else cone (pc + 3) loc stk H) else none
  | .new j, stk => bif Nat.beq len 3 then (match jfind3 jeL own j with
      | some ci => (match cdfT[ci]? with
        | some l => some (pc + 3, loc, (1, (H.length : Int)) :: stk, H ++ [.inr (ci, l)], 1, l.length)
        | none => none)
      | none => none) else none
  | .newarray .int, v :: stk => bif Nat.beq len 2 && Nat.beq v.1 0 && decide (0 ≤ v.2) && decide (v.2 ≤ 134217728) then some (pc + 2, loc, (1, (H.length : Int)) :: stk, H ++ [.inl (0, v.2.toNat, 0, [])], 1, v.2.toNat) else none
  | .newarray .boolean, v :: stk => bif Nat.beq len 2 && Nat.beq v.1 0 && decide (0 ≤ v.2) && decide (v.2 ≤ 134217728) then some (pc + 2, loc, (1, (H.length : Int)) :: stk, H ++ [.inl (1, v.2.toNat, 0, [])], 1, v.2.toNat) else none
  | .getfield j, w :: stk => bif Nat.beq len 3 && Nat.beq w.1 1 then (match jfind jeF own j with
      | some q => (match H[w.2.toNat]? with
        | some (.inr o) => (match o.2[q.2]?, jcl[q.1]? with
          | some v, some r => bif Nat.beq o.1 q.1 && Nat.blt q.2 r.2.2 then cone (pc + 3) loc (v :: stk) H else none
          | _, _ => none)
        | _ => none)
      | none => none) else none
  | .putfield j, v :: w :: stk => bif Nat.beq len 3 && Nat.beq w.1 1 then (match jfind jeF own j with
      | some q => (match H[w.2.toNat]? with
        | some (.inr o) => (match jcl[q.1]? with
          | some r => bif Nat.beq o.1 q.1 && Nat.blt q.2 r.2.2 && Nat.blt q.2 o.2.length && cput r q.2 v.1 && (!(r.2.1 q.2).2.2.2 || (decide ((jyN y).name = "<init>") && decide (r.1 = jcN own))) then cone (pc + 3) loc stk (H.set w.2.toNat (.inr (o.1, o.2.set q.2 v))) else none
          | none => none)
        | _ => none)
      | none => none) else none
  | .iastore, v :: x :: w :: stk => bif Nat.beq len 1 && Nat.beq v.1 0 && Nat.beq x.1 0 && Nat.beq w.1 1 then (match H[w.2.toNat]? with
      | some (.inl a) => bif Nat.beq a.1 0 && decide (0 ≤ x.2) && decide (x.2 < (a.2.1 : Int)) && cin x.2 then cone (pc + 1) loc stk (H.set w.2.toNat (.inl (a.1, a.2.1, a.2.2.1, (x.2.toNat, 1, v.2) :: a.2.2.2))) else none
      | _ => none) else none
  | .arraylength, w :: stk => bif Nat.beq len 1 && Nat.beq w.1 1 then (match H[w.2.toNat]? with
      | some (.inl a) => bif Nat.ble a.1 1 then cone (pc + 1) loc ((0, (a.2.1 : Int)) :: stk) H else none
      | _ => none) else none
  | _, _ => none
/-- the locals at a method's entry -/
def cloc (y : Nat) (av : List cV) : List (Option cV) := av.map some ++ List.replicate (jmx y - av.length) none
def cev : Nat → Nat → Nat → Nat → Nat → List (Option cV) → List cV → List cC → Option (List cC × Nat × Nat)
  | 0, _, _, _, _, _, _, _ => none
  | n + 1, y, own, d, pc, loc, stk, H => match dcF y pc with
    | .error _ => none
    | .ok q => match q.1 with
      | .return_ => bif Nat.beq q.2 1 && decide (jrT y = none) && stk.isEmpty then some (H, 0, 0) else none
      | .invokespecial j => bif Nat.beq q.2 3 && Nat.blt 0 d then (match stk[0]? with
          | none => none
          | some w => match jfindS own j with
              | some 1 => bif (jfind3 jeM own j).isSome && Nat.beq w.1 1 && Nat.ble stk.length 9 && stk.all (fun v => Nat.ble v.1 2) then cev n y own d (pc + 3) loc (stk.drop 1) H else none
              | none => none
              | some y2 => bif Nat.blt y2 315 && Nat.beq (jkd y2) 2 && decide (jrT y2 = none) && decide ((jyN y2).name = "<init>") && jeI.contains y2 && plainName (jyN y2).cls && decide (jcN (jyo.getD y2 99) = (jyN y2).cls) && Nat.ble (jnp y2 + 1) stk.length && Nat.ble (jnp y2 + 1) (jmx y2) && Nat.ble stk.length 9 && stk.all (fun v => Nat.ble v.1 2) && (match stk[jnp y2]? with | some v => Nat.beq v.1 1 | none => false) then
                  (match cev n y2 (jyo.getD y2 99) (d - 1) 0 (cloc y2 (stk.take (jnp y2 + 1)).reverse) [] H with
                  | none => none
                  | some r => match cev n y own d (pc + 3) loc (stk.drop (jnp y2 + 1)) r.1 with
                    | none => none
                    | some r2 => some (r2.1, r.2.1 + r2.2.1, r.2.2 + r2.2.2)) else none) else none
      | .invokestatic j => bif Nat.beq q.2 3 && Nat.blt 0 d then (match jfind3 jeM own j with
          | some 6 => (match stk with
            | v :: w :: stk => bif Nat.beq v.1 0 && Nat.beq w.1 0 && cin v.2 && cin w.2 && Nat.ble stk.length 8 && stk.all (fun v => Nat.ble v.1 2) then cev n y own d (pc + 3) loc ((0, bif decide (w.2 < v.2) then v.2 else w.2) :: stk) H else none
            | _ => none)
          | some 9 => (match stk with
            | v :: w :: stk => bif Nat.beq v.1 0 && Nat.beq w.1 1 && cin v.2 && Nat.ble stk.length 8 && stk.all (fun v => Nat.ble v.1 2) && Nat.blt 1 d then (match H[w.2.toNat]? with
                | some (.inl a) => bif Nat.beq a.1 0 && Nat.ble a.2.1 2147483647 then cev n y own d (pc + 3) loc stk (H.set w.2.toNat (.inl (a.1, a.2.1, v.2, []))) else none
                | _ => none) else none
            | _ => none)
          | _ => none) else none
      | i => match cstep y own pc i q.2 loc stk H with
        | none => none
        | some r => match cev n y own d r.1 r.2.1 r.2.2.1 r.2.2.2.1 with
          | none => none
          | some r2 => some (r2.1, r.2.2.2.2.1 + r2.2.1, r.2.2.2.2.2 + r2.2.2)
/-- steps that are no calls, one behind another -/
def crun (y own : Nat) : Nat → cN → Option cN
  | 0, S => some S
  | n + 1, S => match dcF y S.1 with
    | .error _ => none
    | .ok q => match cstep y own S.1 q.1 q.2 S.2.1 S.2.2.1 S.2.2.2.1 with
      | none => none
      | some r => crun y own n (r.1, r.2.1, r.2.2.1, r.2.2.2.1, S.2.2.2.2.1 + r.2.2.2.2.1, S.2.2.2.2.2 + r.2.2.2.2.2)
