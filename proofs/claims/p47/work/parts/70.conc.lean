section
/-! CONSTRUCTORS: a run cell by cell, and that the machine goes so. A value: (0, z) an int, (1, a) the new cell a, (2, _) null, (3, z) a long; a cell: an array (type, length, default, what was stored), or an object. -/
abbrev cV : Type := Nat × Int
abbrev cC : Type := (Nat × Nat × Int × List (Nat × Nat × Int)) ⊕ (Nat × List cV)
def cval (g : jG) (B : Nat) (v : cV) : Value := match v.1 with
  | 0 => .int (Int32.ofInt v.2)
  | 1 => .ref (g.2.2 + (B + v.2.toNat))
  | 2 => .null
  | _ => .long (Int64.ofInt v.2)
/-- stored: (from, how many, what) -/
def clook (d : Int) : List (Nat × Nat × Int) → Nat → Int
  | [], _ => d
  | q :: t, i => bif Nat.ble q.1 i && Nat.blt i (q.1 + q.2.1) then q.2.2 else clook d t i
def ccel (g : jG) (B : Nat) (c : cC) : jC := match c with
  | .inl a => .inl (a.1, a.2.1, fun i => if i < a.2.1 then Int32.ofInt (clook a.2.2.1 a.2.2.2 i) else 0)
  | .inr o => .inr (o.1, o.2.map (cval g B))
def chp (g : jG) (h0 : jH) (H : List cC) : jH := h0 ++ H.map (ccel g h0.length)
def cL (g : jG) (B : Nat) (loc : List (Option cV)) : List (Option Value) := loc.map (Option.map (cval g B))
def cS (g : jG) (B : Nat) (stk : List cV) : List Value := stk.map (cval g B)
def cin (z : Int) : Bool := decide ((-2147483648 : Int) ≤ z) && decide (z ≤ (2147483647 : Int))
def cdef (ty : FieldType) : Option cV := match ty with
  | .int => some (0, 0)
  | .boolean => some (0, 0)
  | .long => some (3, 0)
  | .object _ => some (2, 0)
  | .array _ => some (2, 0)
  | _ => none
def cdfT : List (List cV) := [[(2, 0), (0, 0), (0, 0)], [(0, 0), (2, 0), (2, 0), (0, 0)], [(0, 0), (0, 0), (0, 0), (2, 0), (2, 0), (2, 0), (2, 0), (2, 0), (2, 0), (0, 0), (0, 0), (2, 0)], [(2, 0), (2, 0), (2, 0), (2, 0), (0, 0), (0, 0), (0, 0)], [(0, 0), (2, 0), (0, 0), (0, 0)], [(0, 0), (2, 0), (2, 0), (2, 0), (2, 0), (0, 0), (2, 0), (2, 0)], [(0, 0), (2, 0), (2, 0), (2, 0), (0, 0), (2, 0), (2, 0), (2, 0)], [(2, 0), (2, 0), (2, 0), (0, 0), (0, 0), (0, 0), (2, 0), (2, 0), (2, 0), (2, 0), (2, 0), (2, 0), (2, 0), (2, 0), (2, 0), (2, 0), (2, 0), (2, 0), (2, 0), (2, 0)], [(0, 0), (2, 0), (2, 0), (2, 0), (2, 0)], [(2, 0), (2, 0), (2, 0), (2, 0), (2, 0), (2, 0), (2, 0), (0, 0), (2, 0), (2, 0), (2, 0), (2, 0), (2, 0), (0, 0), (0, 0)], [(0, 0), (0, 0), (2, 0), (2, 0), (2, 0)], [(2, 0), (2, 0), (2, 0), (2, 0), (0, 0), (2, 0), (0, 0), (0, 0), (2, 0), (2, 0), (2, 0), (2, 0)], [(0, 0), (0, 0), (2, 0), (2, 0), (2, 0), (2, 0), (0, 0), (0, 0), (0, 0), (0, 0), (3, 0), (0, 0), (0, 0), (0, 0), (2, 0), (0, 0), (2, 0), (2, 0), (0, 0), (2, 0), (0, 0), (0, 0), (2, 0), (2, 0), (2, 0), (0, 0), (0, 0), (2, 0), (2, 0), (0, 0), (2, 0), (2, 0), (2, 0), (2, 0), (2, 0), (2, 0), (2, 0), (2, 0), (2, 0), (2, 0), (2, 0), (2, 0)]]
theorem cdfT_all : (List.range 13).all (fun ci => match jcl[ci]?, cdfT[ci]? with
  | some r, some l => Nat.beq l.length r.2.2 && decide (jcN ci = r.1) && jeO.contains ci && jeQ.contains ci && (List.range r.2.2).all (fun k => match parseFieldDescriptor (r.2.1 k).2.2.1 with
    | some ty => decide (cdef ty = l[k]?)
    | none => false)
  | _, _ => false) = true := by decide +kernel
def cput (r : vw_C) (f : Nat) (k : Nat) : Bool := match parseFieldDescriptor (r.2.1 f).2.2.1 with
  | some .int => Nat.beq k 0
  | some (.object _) => Nat.beq k 1
  | some (.array _) => Nat.beq k 1
  | _ => false
abbrev cN : Type := Nat × List (Option cV) × List cV × List cC × Nat × Nat
def clo (loc : List (Option cV)) : Bool := loc.all (fun q => match q with | some v => Nat.ble v.1 2 | none => true)
def cone (pc : Nat) (loc : List (Option cV)) (stk : List cV) (H : List cC) : Option cN := some (pc, loc, stk, H, 0, 0)
/-- a step that is no call -/
def cstep (y own pc : Nat) (i : Instr) (len : Nat) (loc : List (Option cV)) (stk : List cV) (H : List cC) : Option cN := match i, stk with
  | .iconst z, stk => bif Nat.beq len 1 then cone (pc + 1) loc ((0, z) :: stk) H else none
  | .bipush z, stk => bif Nat.beq len 2 && decide (-128 ≤ z) && decide (z ≤ 127) then cone (pc + 2) loc ((0, z) :: stk) H else none
  | .sipush z, stk => bif Nat.beq len 3 && decide (-32768 ≤ z) && decide (z ≤ 32767) then cone (pc + 3) loc ((0, z) :: stk) H else none
  | .ldc j, stk => bif Nat.beq len 2 then (match jeV.find? (fun q => Nat.beq q.2.1 j && Nat.beq q.1 own) with
      | some q => cone (pc + 2) loc ((0, q.2.2.toInt) :: stk) H
      | none => none) else none
  | .aload_n k, stk => bif Nat.beq len 1 then (match loc[(k : Nat)]? with
      | some (some v) => bif Nat.beq v.1 1 then cone (pc + 1) loc (v :: stk) H else none
      | _ => none) else none
  | .iload_n k, stk => bif Nat.beq len 1 then (match loc[(k : Nat)]? with
      | some (some v) => bif Nat.beq v.1 0 then cone (pc + 1) loc (v :: stk) H else none
      | _ => none) else none
  | .istore_n k, v :: stk => bif Nat.beq len 1 && Nat.beq v.1 0 && Nat.blt (k : Nat) (jmx y) && clo loc then cone (pc + 1) (loc.set (k : Nat) (some v)) stk H else none
  | .iinc k z, stk => bif Nat.beq len 3 && Nat.blt k (jmx y) && clo loc then (match loc[k]? with
      | some (some v) => bif Nat.beq v.1 0 then cone (pc + 3) (loc.set k (some (0, v.2 + z))) stk H else none
      | _ => none) else none
  | .dup, v :: stk => bif Nat.beq len 1 && Nat.ble v.1 2 then cone (pc + 1) loc (v :: v :: stk) H else none
  | .iadd, v :: w :: stk => bif Nat.beq len 1 && Nat.beq v.1 0 && Nat.beq w.1 0 then cone (pc + 1) loc ((0, w.2 + v.2) :: stk) H else none
  | .imul, v :: w :: stk => bif Nat.beq len 1 && Nat.beq v.1 0 && Nat.beq w.1 0 then cone (pc + 1) loc ((0, w.2 * v.2) :: stk) H else none
  | .goto off, stk => bif Nat.beq len 3 && decide (0 ≤ (pc : Int) + off) then cone (tgtN pc off) loc stk H else none
  | .if_icmp .ge off, v :: w :: stk => bif Nat.beq len 3 && Nat.beq v.1 0 && Nat.beq w.1 0 && cin v.2 && cin w.2 && decide (0 ≤ (pc : Int) + off) then (bif decide (v.2 ≤ w.2) then cone (tgtN pc off) loc stk H else cone (pc + 3) loc stk H) else none
  | .new j, stk => bif Nat.beq len 3 then (match jfind3 jeL own j with
      | some ci => (match cdfT[ci]? with
        | some l => some (pc + 3, loc, (1, (H.length : Int)) :: stk, H ++ [.inr (ci, l)], 1, l.length)
        | none => none)
      | none => none) else none
  | .newarray .int, v :: stk => bif Nat.beq len 2 && Nat.beq v.1 0 && decide (0 ≤ v.2) && decide (v.2 ≤ 134217728) then some (pc + 2, loc, (1, (H.length : Int)) :: stk, H ++ [.inl (0, v.2.toNat, 0, [])], 1, v.2.toNat) else none
  | .newarray .boolean, v :: stk => bif Nat.beq len 2 && Nat.beq v.1 0 && decide (0 ≤ v.2) && decide (v.2 ≤ 134217728) then some (pc + 2, loc, (1, (H.length : Int)) :: stk, H ++ [.inl (1, v.2.toNat, 0, [])], 1, v.2.toNat) else none
  | .getfield j, w :: stk => bif Nat.beq len 3 && Nat.beq w.1 1 then (match jfind jeF own j with
      | some q => (match H[w.2.toNat]? with
        | some (.inr o) => (match o.2[q.2]?, jcl[q.1]? with
          | some v, some r => bif Nat.beq o.1 q.1 && Nat.blt q.2 r.2.2 then cone (pc + 3) loc (v :: stk) H else none
          | _, _ => none)
        | _ => none)
      | none => none) else none
  | .putfield j, v :: w :: stk => bif Nat.beq len 3 && Nat.beq w.1 1 then (match jfind jeF own j with
      | some q => (match H[w.2.toNat]? with
        | some (.inr o) => (match jcl[q.1]? with
          | some r => bif Nat.beq o.1 q.1 && Nat.blt q.2 r.2.2 && Nat.blt q.2 o.2.length && cput r q.2 v.1 && (!(r.2.1 q.2).2.2.2 || (decide ((jyN y).name = "<init>") && decide (r.1 = jcN own))) then cone (pc + 3) loc stk (H.set w.2.toNat (.inr (o.1, o.2.set q.2 v))) else none
          | none => none)
        | _ => none)
      | none => none) else none
  | .iastore, v :: x :: w :: stk => bif Nat.beq len 1 && Nat.beq v.1 0 && Nat.beq x.1 0 && Nat.beq w.1 1 then (match H[w.2.toNat]? with
      | some (.inl a) => bif Nat.beq a.1 0 && decide (0 ≤ x.2) && decide (x.2 < (a.2.1 : Int)) && cin x.2 then cone (pc + 1) loc stk (H.set w.2.toNat (.inl (a.1, a.2.1, a.2.2.1, (x.2.toNat, 1, v.2) :: a.2.2.2))) else none
      | _ => none) else none
  | .arraylength, w :: stk => bif Nat.beq len 1 && Nat.beq w.1 1 then (match H[w.2.toNat]? with
      | some (.inl a) => bif Nat.ble a.1 1 then cone (pc + 1) loc ((0, (a.2.1 : Int)) :: stk) H else none
      | _ => none) else none
  | _, _ => none
/-- the locals at a method's entry -/
def cloc (y : Nat) (av : List cV) : List (Option cV) := av.map some ++ List.replicate (jmx y - av.length) none
def cev : Nat → Nat → Nat → Nat → Nat → List (Option cV) → List cV → List cC → Option (List cC × Nat × Nat)
  | 0, _, _, _, _, _, _, _ => none
  | n + 1, y, own, d, pc, loc, stk, H => match dcF y pc with
    | .error _ => none
    | .ok q => match q.1 with
      | .return_ => bif Nat.beq q.2 1 && decide (jrT y = none) && stk.isEmpty then some (H, 0, 0) else none
      | .invokespecial j => bif Nat.beq q.2 3 && Nat.blt 0 d then (match stk[0]? with
          | none => none
          | some w => match jfindS own j with
              | some 1 => bif (jfind3 jeM own j).isSome && Nat.beq w.1 1 && Nat.ble stk.length 9 && stk.all (fun v => Nat.ble v.1 2) then cev n y own d (pc + 3) loc (stk.drop 1) H else none
              | none => none
              | some y2 => bif Nat.blt y2 315 && Nat.beq (jkd y2) 2 && decide (jrT y2 = none) && decide ((jyN y2).name = "<init>") && jeI.contains y2 && plainName (jyN y2).cls && decide (jcN (jyo.getD y2 99) = (jyN y2).cls) && Nat.ble (jnp y2 + 1) stk.length && Nat.ble (jnp y2 + 1) (jmx y2) && Nat.ble stk.length 9 && stk.all (fun v => Nat.ble v.1 2) && (match stk[jnp y2]? with | some v => Nat.beq v.1 1 | none => false) then
                  (match cev n y2 (jyo.getD y2 99) (d - 1) 0 (cloc y2 (stk.take (jnp y2 + 1)).reverse) [] H with
                  | none => none
                  | some r => match cev n y own d (pc + 3) loc (stk.drop (jnp y2 + 1)) r.1 with
                    | none => none
                    | some r2 => some (r2.1, r.2.1 + r2.2.1, r.2.2 + r2.2.2)) else none) else none
      | .invokestatic j => bif Nat.beq q.2 3 && Nat.blt 0 d then (match jfind3 jeM own j with
          | some 6 => (match stk with
            | v :: w :: stk => bif Nat.beq v.1 0 && Nat.beq w.1 0 && cin v.2 && cin w.2 && Nat.ble stk.length 8 && stk.all (fun v => Nat.ble v.1 2) then cev n y own d (pc + 3) loc ((0, bif decide (w.2 < v.2) then v.2 else w.2) :: stk) H else none
            | _ => none)
          | some 9 => (match stk with
            | v :: w :: stk => bif Nat.beq v.1 0 && Nat.beq w.1 1 && cin v.2 && Nat.ble stk.length 8 && stk.all (fun v => Nat.ble v.1 2) && Nat.blt 1 d then (match H[w.2.toNat]? with
                | some (.inl a) => bif Nat.beq a.1 0 && Nat.ble a.2.1 2147483647 then cev n y own d (pc + 3) loc stk (H.set w.2.toNat (.inl (a.1, a.2.1, v.2, []))) else none
                | _ => none) else none
            | _ => none)
          | _ => none) else none
      | i => match cstep y own pc i q.2 loc stk H with
        | none => none
        | some r => match cev n y own d r.1 r.2.1 r.2.2.1 r.2.2.2.1 with
          | none => none
          | some r2 => some (r2.1, r.2.2.2.2.1 + r2.2.1, r.2.2.2.2.2 + r2.2.2)
/-- steps that are no calls, one behind another -/
def crun (y own : Nat) : Nat → cN → Option cN
  | 0, S => some S
  | n + 1, S => match dcF y S.1 with
    | .error _ => none
    | .ok q => match cstep y own S.1 q.1 q.2 S.2.1 S.2.2.1 S.2.2.2.1 with
      | none => none
      | some r => crun y own n (r.1, r.2.1, r.2.2.1, r.2.2.2.1, S.2.2.2.2.1 + r.2.2.2.2.1, S.2.2.2.2.2 + r.2.2.2.2.2)
end
section
/-! the concrete run is the machine's -/
section CO
variable {l : Launch} {g : jG} {y d pc own : Nat} {kc ks : Nat} {Q : Option Value → jH → Prop} {h0 : jH} {loc : List (Option cV)} {stk : List cV} {H : List cC} {len : Nat} {r : cN}
theorem cv0 {B : Nat} {v : cV} (h : Nat.beq v.1 0 = true) : cval g B v = .int (Int32.ofInt v.2) := by
  rw [cval, Nat.eq_of_beq_eq_true h]
  rfl
theorem cv1 {B : Nat} {v : cV} (h : Nat.beq v.1 1 = true) : cval g B v = .ref (g.2.2 + (B + v.2.toNat)) := by
  rw [cval, Nat.eq_of_beq_eq_true h]
  rfl
theorem cvc {B : Nat} {v : cV} (h : Nat.ble v.1 2 = true) : (cval g B v).category = 1 := by
  have h1 := Nat.le_of_ble_eq_true h
  rw [cval]
  match hk : v.1, h1 with
  | 0, _ => rfl
  | 1, _ => rfl
  | 2, _ => rfl
theorem chp_len : (chp g h0 H).length = h0.length + H.length := by rw [chp, List.length_append, List.length_map]
theorem chp_get {a : Nat} {c : cC} (h : H[a]? = some c) : (chp g h0 H)[h0.length + a]? = some (ccel g h0.length c) := by
  rw [chp, List.getElem?_append_right (by omega), show h0.length + a - h0.length = a by omega, List.getElem?_map, h]
  rfl
theorem chp_set {a : Nat} {c : cC} : (chp g h0 H).set (h0.length + a) (ccel g h0.length c) = chp g h0 (H.set a c) := by
  rw [chp, chp, List.set_append_right _ _ (by omega), show h0.length + a - h0.length = a by omega, List.map_set]
theorem chp_push {c : cC} : chp g h0 H ++ [ccel g h0.length c] = chp g h0 (H ++ [c]) := by
  rw [chp, chp, List.map_append, List.append_assoc]
  rfl
theorem cL_get {B k : Nat} {v : cV} (h : loc[k]? = some (some v)) : (cL g B loc)[k]? = some (some (cval g B v)) := by
  rw [cL, List.getElem?_map, h]
  rfl
theorem cst1 {B i : Nat} {v : cV} (hc : clo loc = true) : jst1 (cL g B loc) i (cval g B v) = cL g B (loc.set i (some v)) := by
  have e : (cL g B loc).set i (some (cval g B v)) = cL g B (loc.set i (some v)) := by rw [cL, cL, List.map_set]; rfl
  unfold jst1
  cases i with
  | zero => exact e
  | succ k =>
    dsimp only
    split
    · rename_i w hw
      have hw2 : w.category = 1 := by
        cases hk : loc[k]? with
        | none => rw [cL, List.getElem?_map, hk] at hw; cases hw
        | some o =>
          cases o with
          | none => rw [cL, List.getElem?_map, hk] at hw; cases hw
          | some u =>
            rw [cL_get hk] at hw
            cases hw
            exact cvc (List.all_eq_true.mp hc (some u) (List.mem_of_getElem? hk))
      rw [if_neg (by rw [hw2]; decide)]
      exact e
    · exact e
theorem c_iconst {z : Int} (ho : jcN own = (jyN y).cls) (hd : decode (jbC y) pc = .ok (.iconst z, len)) (hs : cstep y own pc (.iconst z) len loc stk H = some r) (k : J l g y d r.1 (cL g h0.length r.2.1) (cS g h0.length r.2.2.1) (chp g h0 r.2.2.2.1) kc ks Q) : J l g y d pc (cL g h0.length loc) (cS g h0.length stk) (chp g h0 H) (r.2.2.2.2.1 + kc) (r.2.2.2.2.2 + ks) Q := by
  obtain ⟨hb, h1⟩ := bif_some hs
  have hlen := Nat.eq_of_beq_eq_true hb
  subst hlen
  cases h1
  rw [Nat.zero_add, Nat.zero_add]
  exact j_iconst hd k
theorem c_bipush {z : Int} (ho : jcN own = (jyN y).cls) (hd : decode (jbC y) pc = .ok (.bipush z, len)) (hs : cstep y own pc (.bipush z) len loc stk H = some r) (k : J l g y d r.1 (cL g h0.length r.2.1) (cS g h0.length r.2.2.1) (chp g h0 r.2.2.2.1) kc ks Q) : J l g y d pc (cL g h0.length loc) (cS g h0.length stk) (chp g h0 H) (r.2.2.2.2.1 + kc) (r.2.2.2.2.2 + ks) Q := by
  obtain ⟨hb, h1⟩ := bif_some hs
  simp only [Bool.and_eq_true, decide_eq_true_eq] at hb
  have hlen := Nat.eq_of_beq_eq_true hb.1.1
  subst hlen
  cases h1
  rw [Nat.zero_add, Nat.zero_add]
  refine j_bipush hd ?_
  have e : (Int8.ofInt z).toInt32 = Int32.ofInt z := by
    apply Int32.toInt_inj.mp
    rw [Int8.toInt_toInt32, Int8.toInt_ofInt, show Int8.size = 256 from rfl, i32_ofInt (by omega) (by omega)]
    exact Int.bmod_eq_of_le (by omega) (by omega)
  rw [e]
  exact k
theorem c_sipush {z : Int} (ho : jcN own = (jyN y).cls) (hd : decode (jbC y) pc = .ok (.sipush z, len)) (hs : cstep y own pc (.sipush z) len loc stk H = some r) (k : J l g y d r.1 (cL g h0.length r.2.1) (cS g h0.length r.2.2.1) (chp g h0 r.2.2.2.1) kc ks Q) : J l g y d pc (cL g h0.length loc) (cS g h0.length stk) (chp g h0 H) (r.2.2.2.2.1 + kc) (r.2.2.2.2.2 + ks) Q := by
  obtain ⟨hb, h1⟩ := bif_some hs
  simp only [Bool.and_eq_true, decide_eq_true_eq] at hb
  have hlen := Nat.eq_of_beq_eq_true hb.1.1
  subst hlen
  cases h1
  rw [Nat.zero_add, Nat.zero_add]
  refine j_sipush hd ?_
  have e : (Int16.ofInt z).toInt32 = Int32.ofInt z := by
    apply Int32.toInt_inj.mp
    rw [Int16.toInt_toInt32, Int16.toInt_ofInt, show Int16.size = 65536 from rfl, i32_ofInt (by omega) (by omega)]
    exact Int.bmod_eq_of_le (by omega) (by omega)
  rw [e]
  exact k
theorem jeV_mem {own j : Nat} {q : Nat × Nat × Int32} (h : jeV.find? (fun q => Nat.beq q.2.1 j && Nat.beq q.1 own) = some q) : (own, j, q.2.2) ∈ jeV := by
  have h1 := List.mem_of_find?_eq_some h
  have h2 := List.find?_some (p := fun q : Nat × Nat × Int32 => Nat.beq q.2.1 j && Nat.beq q.1 own) h
  rw [Bool.and_eq_true] at h2
  have e1 := Nat.eq_of_beq_eq_true h2.1
  have e2 := Nat.eq_of_beq_eq_true h2.2
  rw [← e1, ← e2]
  exact h1
theorem c_ldc {j : Nat} (ho : jcN own = (jyN y).cls) (hd : decode (jbC y) pc = .ok (.ldc j, len)) (hs : cstep y own pc (.ldc j) len loc stk H = some r) (k : J l g y d r.1 (cL g h0.length r.2.1) (cS g h0.length r.2.2.1) (chp g h0 r.2.2.2.1) kc ks Q) : J l g y d pc (cL g h0.length loc) (cS g h0.length stk) (chp g h0 H) (r.2.2.2.2.1 + kc) (r.2.2.2.2.2 + ks) Q := by
  obtain ⟨hb, h1⟩ := bif_some hs
  have hlen := Nat.eq_of_beq_eq_true hb
  subst hlen
  split at h1
  · rename_i q hq
    cases h1
    rw [Nat.zero_add, Nat.zero_add]
    refine j_ldc ho (jeV_mem hq) hd ?_
    have e : cval g h0.length (0, q.2.2.toInt) = .int q.2.2 := by
      show Value.int (Int32.ofInt q.2.2.toInt) = _
      rw [Int32.ofInt_toInt]
    rw [← e]
    exact k
  · cases h1
theorem c_aload {k4 : Fin 4} (ho : jcN own = (jyN y).cls) (hd : decode (jbC y) pc = .ok (.aload_n k4, len)) (hs : cstep y own pc (.aload_n k4) len loc stk H = some r) (k : J l g y d r.1 (cL g h0.length r.2.1) (cS g h0.length r.2.2.1) (chp g h0 r.2.2.2.1) kc ks Q) : J l g y d pc (cL g h0.length loc) (cS g h0.length stk) (chp g h0 H) (r.2.2.2.2.1 + kc) (r.2.2.2.2.2 + ks) Q := by
  obtain ⟨hb, h1⟩ := bif_some hs
  have hlen := Nat.eq_of_beq_eq_true hb
  subst hlen
  split at h1
  · rename_i v hv
    obtain ⟨hb2, h2⟩ := bif_some h1
    cases h2
    rw [Nat.zero_add, Nat.zero_add]
    have hg := cL_get (g := g) (B := h0.length) hv
    rw [cv1 hb2] at hg
    refine j_aload_n hd hg ?_
    rw [← cv1 hb2]
    exact k
  · cases h1
theorem c_iload {k4 : Fin 4} (ho : jcN own = (jyN y).cls) (hd : decode (jbC y) pc = .ok (.iload_n k4, len)) (hs : cstep y own pc (.iload_n k4) len loc stk H = some r) (k : J l g y d r.1 (cL g h0.length r.2.1) (cS g h0.length r.2.2.1) (chp g h0 r.2.2.2.1) kc ks Q) : J l g y d pc (cL g h0.length loc) (cS g h0.length stk) (chp g h0 H) (r.2.2.2.2.1 + kc) (r.2.2.2.2.2 + ks) Q := by
  obtain ⟨hb, h1⟩ := bif_some hs
  have hlen := Nat.eq_of_beq_eq_true hb
  subst hlen
  split at h1
  · rename_i v hv
    obtain ⟨hb2, h2⟩ := bif_some h1
    cases h2
    rw [Nat.zero_add, Nat.zero_add]
    have hg := cL_get (g := g) (B := h0.length) hv
    rw [cv0 hb2] at hg
    refine j_iload_n hd hg ?_
    rw [← cv0 (g := g) (B := h0.length) hb2]
    exact k
  · cases h1
theorem c_istore {k4 : Fin 4} (ho : jcN own = (jyN y).cls) (hd : decode (jbC y) pc = .ok (.istore_n k4, len)) (hs : cstep y own pc (.istore_n k4) len loc stk H = some r) (k : J l g y d r.1 (cL g h0.length r.2.1) (cS g h0.length r.2.2.1) (chp g h0 r.2.2.2.1) kc ks Q) : J l g y d pc (cL g h0.length loc) (cS g h0.length stk) (chp g h0 H) (r.2.2.2.2.1 + kc) (r.2.2.2.2.2 + ks) Q := by
  match stk, hs with
  | [], hs => exact nn hs
  | v :: stk, hs =>
    obtain ⟨hb, h1⟩ := bif_some hs
    simp only [Bool.and_eq_true] at hb
    obtain ⟨⟨⟨l0, c1⟩, c2⟩, c3⟩ := hb
    have hlen := Nat.eq_of_beq_eq_true l0
    subst hlen
    cases h1
    rw [Nat.zero_add, Nat.zero_add]
    show J l g y d pc _ (cval g h0.length v :: cS g h0.length stk) _ _ _ _
    dsimp only at k
    rw [← cst1 c3] at k
    rw [cv0 c1] at k ⊢
    exact j_istore_n hd (blt_lt c2) k
theorem c_iinc {i : Nat} {z : Int} (ho : jcN own = (jyN y).cls) (hd : decode (jbC y) pc = .ok (.iinc i z, len)) (hs : cstep y own pc (.iinc i z) len loc stk H = some r) (k : J l g y d r.1 (cL g h0.length r.2.1) (cS g h0.length r.2.2.1) (chp g h0 r.2.2.2.1) kc ks Q) : J l g y d pc (cL g h0.length loc) (cS g h0.length stk) (chp g h0 H) (r.2.2.2.2.1 + kc) (r.2.2.2.2.2 + ks) Q := by
  obtain ⟨hb, h1⟩ := bif_some hs
  simp only [Bool.and_eq_true] at hb
  obtain ⟨⟨l0, c2⟩, c3⟩ := hb
  have hlen := Nat.eq_of_beq_eq_true l0
  subst hlen
  split at h1
  · rename_i v hv
    obtain ⟨hb2, h2⟩ := bif_some h1
    cases h2
    rw [Nat.zero_add, Nat.zero_add]
    dsimp only at k
    rw [← cst1 c3] at k
    have hg := cL_get (g := g) (B := h0.length) hv
    rw [cv0 hb2] at hg
    refine j_iinc hd (blt_lt c2) hg ?_
    rw [← Int32.ofInt_add]
    exact k
  · cases h1
theorem c_dup (ho : jcN own = (jyN y).cls) (hd : decode (jbC y) pc = .ok (.dup, len)) (hs : cstep y own pc (.dup) len loc stk H = some r) (k : J l g y d r.1 (cL g h0.length r.2.1) (cS g h0.length r.2.2.1) (chp g h0 r.2.2.2.1) kc ks Q) : J l g y d pc (cL g h0.length loc) (cS g h0.length stk) (chp g h0 H) (r.2.2.2.2.1 + kc) (r.2.2.2.2.2 + ks) Q := by
  match stk, hs with
  | [], hs => exact nn hs
  | v :: stk, hs =>
    obtain ⟨hb, h1⟩ := bif_some hs
    simp only [Bool.and_eq_true] at hb
    have hlen := Nat.eq_of_beq_eq_true hb.1
    subst hlen
    cases h1
    rw [Nat.zero_add, Nat.zero_add]
    exact j_dup hd (cvc hb.2) k
theorem c_iadd (ho : jcN own = (jyN y).cls) (hd : decode (jbC y) pc = .ok (.iadd, len)) (hs : cstep y own pc (.iadd) len loc stk H = some r) (k : J l g y d r.1 (cL g h0.length r.2.1) (cS g h0.length r.2.2.1) (chp g h0 r.2.2.2.1) kc ks Q) : J l g y d pc (cL g h0.length loc) (cS g h0.length stk) (chp g h0 H) (r.2.2.2.2.1 + kc) (r.2.2.2.2.2 + ks) Q := by
  match stk, hs with
  | [], hs => exact nn hs
  | [_], hs => exact nn hs
  | v :: w :: stk, hs =>
    obtain ⟨hb, h1⟩ := bif_some hs
    simp only [Bool.and_eq_true] at hb
    obtain ⟨⟨l0, c1⟩, c2⟩ := hb
    have hlen := Nat.eq_of_beq_eq_true l0
    subst hlen
    cases h1
    rw [Nat.zero_add, Nat.zero_add]
    show J l g y d pc _ (cval g h0.length v :: cval g h0.length w :: cS g h0.length stk) _ _ _ _
    rw [cv0 c1, cv0 c2]
    refine j_iadd hd ?_
    rw [← Int32.ofInt_add]
    exact k
theorem c_imul (ho : jcN own = (jyN y).cls) (hd : decode (jbC y) pc = .ok (.imul, len)) (hs : cstep y own pc (.imul) len loc stk H = some r) (k : J l g y d r.1 (cL g h0.length r.2.1) (cS g h0.length r.2.2.1) (chp g h0 r.2.2.2.1) kc ks Q) : J l g y d pc (cL g h0.length loc) (cS g h0.length stk) (chp g h0 H) (r.2.2.2.2.1 + kc) (r.2.2.2.2.2 + ks) Q := by
  match stk, hs with
  | [], hs => exact nn hs
  | [_], hs => exact nn hs
  | v :: w :: stk, hs =>
    obtain ⟨hb, h1⟩ := bif_some hs
    simp only [Bool.and_eq_true] at hb
    obtain ⟨⟨l0, c1⟩, c2⟩ := hb
    have hlen := Nat.eq_of_beq_eq_true l0
    subst hlen
    cases h1
    rw [Nat.zero_add, Nat.zero_add]
    show J l g y d pc _ (cval g h0.length v :: cval g h0.length w :: cS g h0.length stk) _ _ _ _
    rw [cv0 c1, cv0 c2]
    refine j_imul hd ?_
    rw [← Int32.ofInt_mul]
    exact k
theorem c_goto {off : Int} (ho : jcN own = (jyN y).cls) (hd : decode (jbC y) pc = .ok (.goto off, len)) (hs : cstep y own pc (.goto off) len loc stk H = some r) (k : J l g y d r.1 (cL g h0.length r.2.1) (cS g h0.length r.2.2.1) (chp g h0 r.2.2.2.1) kc ks Q) : J l g y d pc (cL g h0.length loc) (cS g h0.length stk) (chp g h0 H) (r.2.2.2.2.1 + kc) (r.2.2.2.2.2 + ks) Q := by
  obtain ⟨hb, h1⟩ := bif_some hs
  simp only [Bool.and_eq_true, decide_eq_true_eq] at hb
  have hlen := Nat.eq_of_beq_eq_true hb.1
  subst hlen
  cases h1
  rw [Nat.zero_add, Nat.zero_add]
  exact j_goto hd (tgtN_ok hb.2) k
theorem cin_ok {z : Int} (h : cin z = true) : (Int32.ofInt z).toInt = z := by
  simp only [cin, Bool.and_eq_true, decide_eq_true_eq] at h
  exact i32_ofInt h.1 h.2
theorem c_icmp {c : ClassFile.Cond} {off : Int} (ho : jcN own = (jyN y).cls) (hd : decode (jbC y) pc = .ok (.if_icmp c off, len)) (hs : cstep y own pc (.if_icmp c off) len loc stk H = some r) (k : J l g y d r.1 (cL g h0.length r.2.1) (cS g h0.length r.2.2.1) (chp g h0 r.2.2.2.1) kc ks Q) : J l g y d pc (cL g h0.length loc) (cS g h0.length stk) (chp g h0 H) (r.2.2.2.2.1 + kc) (r.2.2.2.2.2 + ks) Q := by
  cases c with
  | ge =>
    match stk, hs with
    | [], hs => exact nn hs
    | [_], hs => exact nn hs
    | v :: w :: stk, hs =>
      obtain ⟨hb, h1⟩ := bif_some hs
      simp only [Bool.and_eq_true, decide_eq_true_eq] at hb
      obtain ⟨⟨⟨⟨⟨l0, c1⟩, c2⟩, c3⟩, c4⟩, c5⟩ := hb
      have hlen := Nat.eq_of_beq_eq_true l0
      subst hlen
      show J l g y d pc _ (cval g h0.length v :: cval g h0.length w :: cS g h0.length stk) _ _ _ _
      rw [cv0 c1, cv0 c2]
      by_cases hc : v.2 ≤ w.2
      · simp only [hc, decide_true, cond_true] at h1
        cases h1
        rw [Nat.zero_add, Nat.zero_add]
        refine j_icmp_ge hd (tgtN_ok c5) (fun _ => k) (fun q => absurd (Int32.le_iff_toInt_le.mpr ?_) q)
        rw [cin_ok c3, cin_ok c4]
        exact hc
      · simp only [hc, decide_false, cond_false] at h1
        cases h1
        rw [Nat.zero_add, Nat.zero_add]
        refine j_icmp_ge hd (tgtN_ok c5) (fun q => ?_) (fun _ => k)
        have := Int32.le_iff_toInt_le.mp q
        rw [cin_ok c3, cin_ok c4] at this
        exact absurd this hc
  | _ => exact nn (by revert hs; match stk with | [] => exact id | [_] => exact id | _ :: _ :: _ => exact id)
theorem cdfT_at {ci : Nat} {L : List cV} (hl : cdfT[ci]? = some L) : ∃ r : vw_C, jcl[ci]? = some r ∧ L.length = r.2.2 ∧ jcN ci = r.1 ∧ ci ∈ jeO ∧ ci ∈ jeQ ∧ ∀ k, k < r.2.2 → ∃ ty, parseFieldDescriptor (r.2.1 k).2.2.1 = some ty ∧ cdef ty = L[k]? := by
  have hci : ci < 13 := (List.getElem?_eq_some_iff.mp hl).1
  have h1 := List.all_eq_true.mp cdfT_all ci (List.mem_range.mpr hci)
  rw [hl] at h1
  cases hr : jcl[ci]? with
  | none => rw [hr] at h1; cases h1
  | some r =>
    rw [hr] at h1
    simp only [Bool.and_eq_true, decide_eq_true_eq] at h1
    obtain ⟨⟨⟨⟨a1, a2⟩, a3⟩, a4⟩, a5⟩ := h1
    refine ⟨r, rfl, Nat.eq_of_beq_eq_true a1, a2, List.contains_iff_mem.mp a3, List.contains_iff_mem.mp a4, fun k hk => ?_⟩
    have h2 := List.all_eq_true.mp a5 k (List.mem_range.mpr hk)
    split at h2
    · rename_i ty hty
      exact ⟨ty, hty, by simpa using h2⟩
    · cases h2
theorem cdef_val {B : Nat} {ty : FieldType} {v : cV} (h : cdef ty = some v) : defaultValue ty = cval g B v := by
  cases ty <;> first | (cases h; rfl) | (exact absurd h (by simp [cdef]))
theorem c_new {j : Nat} (ho : jcN own = (jyN y).cls) (hd : decode (jbC y) pc = .ok (.new j, len)) (hs : cstep y own pc (.new j) len loc stk H = some r) (k : J l g y d r.1 (cL g h0.length r.2.1) (cS g h0.length r.2.2.1) (chp g h0 r.2.2.2.1) kc ks Q) : J l g y d pc (cL g h0.length loc) (cS g h0.length stk) (chp g h0 H) (r.2.2.2.2.1 + kc) (r.2.2.2.2.2 + ks) Q := by
  obtain ⟨hb, h1⟩ := bif_some hs
  have hlen := Nat.eq_of_beq_eq_true hb
  subst hlen
  split at h1
  · rename_i ci hci
    split at h1
    · rename_i L hL
      cases h1
      obtain ⟨r, a1, a2, a3, a4, a5, a6⟩ := cdfT_at hL
      dsimp only
      rw [a2]
      refine j_new (fs := L.map (cval g h0.length)) hd ho (jfind3_mem hci) a1 a3 a4 a5 (fun ty hty q hq => ?_) ?_
      · obtain ⟨t, t1, t2⟩ := a6 q hq
        rw [hty q hq] at t1
        cases t1
        have hq2 : q < L.length := by omega
        rw [List.getElem?_eq_getElem hq2] at t2
        rw [vp_V, List.getD_eq_getElem?_getD, List.getElem?_map, List.getElem?_eq_getElem hq2]
        exact cdef_val t2
      · rw [chp_len]
        have e := chp_push (g := g) (h0 := h0) (H := H) (c := .inr (ci, L))
        rw [show ccel g h0.length (.inr (ci, L)) = .inr (ci, L.map (cval g h0.length)) from rfl] at e
        rw [e]
        exact k
    · cases h1
  · cases h1
theorem c_newa {at_ : ArrayType} (ho : jcN own = (jyN y).cls) (hd : decode (jbC y) pc = .ok (.newarray at_, len)) (hs : cstep y own pc (.newarray at_) len loc stk H = some r) (k : J l g y d r.1 (cL g h0.length r.2.1) (cS g h0.length r.2.2.1) (chp g h0 r.2.2.2.1) kc ks Q) : J l g y d pc (cL g h0.length loc) (cS g h0.length stk) (chp g h0 H) (r.2.2.2.2.1 + kc) (r.2.2.2.2.2 + ks) Q := by
  have main : ∀ (t : Nat) (v : cV) (stk : List cV), ((at_ = .int ∧ t = 0) ∨ (at_ = .boolean ∧ t = 1)) → (bif Nat.beq len 2 && Nat.beq v.1 0 && decide (0 ≤ v.2) && decide (v.2 ≤ 134217728) then some (pc + 2, loc, (1, (H.length : Int)) :: stk, H ++ [.inl (t, v.2.toNat, 0, [])], 1, v.2.toNat) else none) = some r → J l g y d pc (cL g h0.length loc) (cS g h0.length (v :: stk)) (chp g h0 H) (r.2.2.2.2.1 + kc) (r.2.2.2.2.2 + ks) Q := by
    intro t v stk ht hs
    obtain ⟨hb, h1⟩ := bif_some hs
    simp only [Bool.and_eq_true, decide_eq_true_eq] at hb
    obtain ⟨⟨⟨l0, c1⟩, c2⟩, c3⟩ := hb
    have hlen := Nat.eq_of_beq_eq_true l0
    subst hlen
    cases h1
    dsimp only
    show J l g y d pc _ (cval g h0.length v :: cS g h0.length stk) _ _ _ _
    rw [cv0 c1]
    have e1 : (Int32.ofInt v.2).toInt = v.2 := i32_ofInt (by omega) (by omega)
    have e2 := i32_clamp (i := Int32.ofInt v.2) (by omega)
    refine j_newa (N := v.2.toNat) hd ht (i32_nn (by omega)) (by omega) (by omega) ?_
    rw [chp_len]
    have e := chp_push (g := g) (h0 := h0) (H := H) (c := .inl (t, v.2.toNat, 0, []))
    rw [show ccel g h0.length (.inl (t, v.2.toNat, 0, [])) = .inl (t, v.2.toNat, fun _ => 0) by show (Sum.inl (t, v.2.toNat, fun i => if i < v.2.toNat then Int32.ofInt 0 else 0) : jC) = _; congr 3; funext i; split <;> rfl] at e
    rw [e]
    exact k
  cases at_ with
  | int => match stk, hs with
    | v :: stk, hs => exact main 0 v stk (Or.inl ⟨rfl, rfl⟩) hs
    | [], hs => exact nn hs
  | boolean => match stk, hs with
    | v :: stk, hs => exact main 1 v stk (Or.inr ⟨rfl, rfl⟩) hs
    | [], hs => exact nn hs
  | _ => exact nn (by revert hs; match stk with | [] => exact id | _ :: _ => exact id)
theorem c_get {j : Nat} (ho : jcN own = (jyN y).cls) (hd : decode (jbC y) pc = .ok (.getfield j, len)) (hs : cstep y own pc (.getfield j) len loc stk H = some r) (k : J l g y d r.1 (cL g h0.length r.2.1) (cS g h0.length r.2.2.1) (chp g h0 r.2.2.2.1) kc ks Q) : J l g y d pc (cL g h0.length loc) (cS g h0.length stk) (chp g h0 H) (r.2.2.2.2.1 + kc) (r.2.2.2.2.2 + ks) Q := by
  match stk, hs with
  | [], hs => exact nn hs
  | w :: stk, hs =>
    obtain ⟨hb, h1⟩ := bif_some hs
    simp only [Bool.and_eq_true] at hb
    have hlen := Nat.eq_of_beq_eq_true hb.1
    subst hlen
    split at h1
    · rename_i q hq
      split at h1
      · rename_i o hH
        split at h1
        · rename_i v r hv hr
          obtain ⟨hb2, h2⟩ := bif_some h1
          rw [Bool.and_eq_true] at hb2
          have e1 := Nat.eq_of_beq_eq_true hb2.1
          have e2 := blt_lt hb2.2
          cases h2
          rw [Nat.zero_add, Nat.zero_add]
          show J l g y d pc _ (cval g h0.length w :: cS g h0.length stk) _ _ _ _
          rw [cv1 hb.2]
          have hc := chp_get (g := g) (h0 := h0) hH
          rw [show ccel g h0.length (.inr o) = .inr (o.1, o.2.map (cval g h0.length)) from rfl, e1] at hc
          exact j_get hd ho (jfind_mem hq) hc (fun r' hr' => by cases hr.symm.trans hr'; exact e2) (by rw [List.getElem?_map, hv]; rfl) k
        · cases h1
      · cases h1
    · cases h1
theorem c_put {j : Nat} (ho : jcN own = (jyN y).cls) (hd : decode (jbC y) pc = .ok (.putfield j, len)) (hs : cstep y own pc (.putfield j) len loc stk H = some r) (k : J l g y d r.1 (cL g h0.length r.2.1) (cS g h0.length r.2.2.1) (chp g h0 r.2.2.2.1) kc ks Q) : J l g y d pc (cL g h0.length loc) (cS g h0.length stk) (chp g h0 H) (r.2.2.2.2.1 + kc) (r.2.2.2.2.2 + ks) Q := by
  match stk, hs with
  | [], hs => exact nn hs
  | [_], hs => exact nn hs
  | v :: w :: stk, hs =>
    obtain ⟨hb, h1⟩ := bif_some hs
    simp only [Bool.and_eq_true] at hb
    have hlen := Nat.eq_of_beq_eq_true hb.1
    subst hlen
    split at h1
    · rename_i q hq
      split at h1
      · rename_i o hH
        split at h1
        · rename_i r hr
          obtain ⟨hb2, h2⟩ := bif_some h1
          simp only [Bool.and_eq_true, Bool.or_eq_true, Bool.not_eq_true', decide_eq_true_eq] at hb2
          obtain ⟨⟨⟨⟨a1, a2⟩, a3⟩, a4⟩, a5⟩ := hb2
          have e1 := Nat.eq_of_beq_eq_true a1
          have e2 := blt_lt a2
          have e3 := blt_lt a3
          cases h2
          rw [Nat.zero_add, Nat.zero_add]
          show J l g y d pc _ (cval g h0.length v :: cval g h0.length w :: cS g h0.length stk) _ _ _ _
          rw [cv1 hb.2]
          have hc := chp_get (g := g) (h0 := h0) hH
          rw [show ccel g h0.length (.inr o) = .inr (o.1, o.2.map (cval g h0.length)) from rfl, e1] at hc
          have hk : J l g y d (pc + 3) (cL g h0.length loc) (cS g h0.length stk) ((chp g h0 H).set (h0.length + w.2.toNat) (.inr (q.1, (o.2.map (cval g h0.length)).set q.2 (cval g h0.length v)))) kc ks Q := by
            have e := chp_set (g := g) (h0 := h0) (H := H) (a := w.2.toNat) (c := .inr (o.1, o.2.set q.2 v))
            rw [show ccel g h0.length (.inr (o.1, o.2.set q.2 v)) = .inr (o.1, (o.2.map (cval g h0.length)).set q.2 (cval g h0.length v)) by rw [ccel, List.map_set], e1] at e
            rw [e]
            rw [e1] at k
            exact k
          have hty : ∃ ty, parseFieldDescriptor (r.2.1 q.2).2.2.1 = some ty ∧ narrow ty (cval g h0.length v) = cval g h0.length v ∧ fits ty (cval g h0.length v) = true := by
            rw [cput] at a4
            split at a4
            · rename_i ht
              rw [cv0 a4]
              exact ⟨_, ht, rfl, rfl⟩
            · rename_i ht
              rw [cv1 a4]
              exact ⟨_, ht, rfl, rfl⟩
            · rename_i ht
              rw [cv1 a4]
              exact ⟨_, ht, rfl, rfl⟩
            · cases a4
          obtain ⟨ty, t1, t2, t3⟩ := hty
          cases hf : (r.2.1 q.2).2.2.2 with
          | false => exact j_put hd ho (jfind_mem hq) hc hr e2 (by rw [List.length_map]; exact e3) hf t1 t2 t3 hk
          | true =>
            rcases a5 with a5 | ⟨a5, a6⟩
            · rw [hf] at a5; cases a5
            · exact j_putF hd ho (jfind_mem hq) hc hr e2 (by rw [List.length_map]; exact e3) hf a5 a6 t1 t2 t3 hk
        · cases h1
      · cases h1
    · cases h1
theorem c_iast (ho : jcN own = (jyN y).cls) (hd : decode (jbC y) pc = .ok (.iastore, len)) (hs : cstep y own pc (.iastore) len loc stk H = some r) (k : J l g y d r.1 (cL g h0.length r.2.1) (cS g h0.length r.2.2.1) (chp g h0 r.2.2.2.1) kc ks Q) : J l g y d pc (cL g h0.length loc) (cS g h0.length stk) (chp g h0 H) (r.2.2.2.2.1 + kc) (r.2.2.2.2.2 + ks) Q := by
  match stk, hs with
  | [], hs => exact nn hs
  | [_], hs => exact nn hs
  | [_, _], hs => exact nn hs
  | v :: x :: w :: stk, hs =>
    obtain ⟨hb, h1⟩ := bif_some hs
    simp only [Bool.and_eq_true] at hb
    obtain ⟨⟨⟨l0, c1⟩, c2⟩, c3⟩ := hb
    have hlen := Nat.eq_of_beq_eq_true l0
    subst hlen
    split at h1
    · rename_i a hH
      obtain ⟨hb2, h2⟩ := bif_some h1
      simp only [Bool.and_eq_true, decide_eq_true_eq] at hb2
      obtain ⟨⟨⟨a1, a2⟩, a3⟩, a4⟩ := hb2
      have e1 := Nat.eq_of_beq_eq_true a1
      cases h2
      rw [Nat.zero_add, Nat.zero_add]
      show J l g y d pc _ (cval g h0.length v :: cval g h0.length x :: cval g h0.length w :: cS g h0.length stk) _ _ _ _
      rw [cv0 c1, cv0 c2, cv1 c3]
      have hc := chp_get (g := g) (h0 := h0) hH
      rw [show ccel g h0.length (.inl a) = .inl (a.1, a.2.1, fun i => if i < a.2.1 then Int32.ofInt (clook a.2.2.1 a.2.2.2 i) else 0) from rfl, e1] at hc
      have e2 := cin_ok a4
      have e3 := i32_clamp (i := Int32.ofInt x.2) (by omega)
      refine j_iast hd hc (i32_in (by omega) (by omega)) ?_
      have e := chp_set (g := g) (h0 := h0) (H := H) (a := w.2.toNat) (c := .inl (a.1, a.2.1, a.2.2.1, (x.2.toNat, 1, v.2) :: a.2.2.2))
      have ef : upd (fun i => if i < a.2.1 then Int32.ofInt (clook a.2.2.1 a.2.2.2 i) else 0) (Int32.ofInt x.2).toNatClampNeg (Int32.ofInt v.2) = fun i => if i < a.2.1 then Int32.ofInt (clook a.2.2.1 ((x.2.toNat, 1, v.2) :: a.2.2.2) i) else 0 := by
        funext i
        rw [upd, clook]
        by_cases hi : i = (Int32.ofInt x.2).toNatClampNeg
        · have hi2 : x.2.toNat = i := by omega
          rw [if_pos hi, if_pos (by omega), show (Nat.ble x.2.toNat i && Nat.blt i (x.2.toNat + 1)) = true by rw [Bool.and_eq_true]; exact ⟨Nat.ble_eq_true_of_le (by omega), Nat.ble_eq_true_of_le (by omega)⟩]
          rfl
        · have hi2 : ¬ x.2.toNat = i := by omega
          rw [if_neg hi, show (Nat.ble x.2.toNat i && Nat.blt i (x.2.toNat + 1)) = false from by cases hbq : (Nat.ble x.2.toNat i && Nat.blt i (x.2.toNat + 1)) with | false => rfl | true => rw [Bool.and_eq_true] at hbq; have h5 := Nat.le_of_ble_eq_true hbq.1; have h6 := blt_lt hbq.2; omega]
          rfl
      rw [ef]
      rw [show ccel g h0.length (.inl (a.1, a.2.1, a.2.2.1, (x.2.toNat, 1, v.2) :: a.2.2.2)) = .inl (a.1, a.2.1, fun i => if i < a.2.1 then Int32.ofInt (clook a.2.2.1 ((x.2.toNat, 1, v.2) :: a.2.2.2) i) else 0) from rfl, e1] at e
      rw [e]
      rw [e1] at k
      exact k
    · cases h1
theorem c_alen (ho : jcN own = (jyN y).cls) (hd : decode (jbC y) pc = .ok (.arraylength, len)) (hs : cstep y own pc (.arraylength) len loc stk H = some r) (k : J l g y d r.1 (cL g h0.length r.2.1) (cS g h0.length r.2.2.1) (chp g h0 r.2.2.2.1) kc ks Q) : J l g y d pc (cL g h0.length loc) (cS g h0.length stk) (chp g h0 H) (r.2.2.2.2.1 + kc) (r.2.2.2.2.2 + ks) Q := by
  match stk, hs with
  | [], hs => exact nn hs
  | w :: stk, hs =>
    obtain ⟨hb, h1⟩ := bif_some hs
    simp only [Bool.and_eq_true] at hb
    have hlen := Nat.eq_of_beq_eq_true hb.1
    subst hlen
    split at h1
    · rename_i a hH
      obtain ⟨hb2, h2⟩ := bif_some h1
      have e1 := Nat.le_of_ble_eq_true hb2
      cases h2
      rw [Nat.zero_add, Nat.zero_add]
      show J l g y d pc _ (cval g h0.length w :: cS g h0.length stk) _ _ _ _
      rw [cv1 hb.2]
      have hc := chp_get (g := g) (h0 := h0) hH
      refine j_alen hd (t := a.1) (by omega) hc ?_
      rw [← Int32.ofInt_eq_ofNat]
      exact k
    · cases h1
theorem cstep_ok {i : Instr} (ho : jcN own = (jyN y).cls) (hd : decode (jbC y) pc = .ok (i, len)) (hs : cstep y own pc i len loc stk H = some r) (k : J l g y d r.1 (cL g h0.length r.2.1) (cS g h0.length r.2.2.1) (chp g h0 r.2.2.2.1) kc ks Q) : J l g y d pc (cL g h0.length loc) (cS g h0.length stk) (chp g h0 H) (r.2.2.2.2.1 + kc) (r.2.2.2.2.2 + ks) Q := by
  cases i with
  | iconst => exact c_iconst ho hd hs k
  | bipush => exact c_bipush ho hd hs k
  | sipush => exact c_sipush ho hd hs k
  | ldc => exact c_ldc ho hd hs k
  | aload_n => exact c_aload ho hd hs k
  | iload_n => exact c_iload ho hd hs k
  | istore_n => exact c_istore ho hd hs k
  | iinc => exact c_iinc ho hd hs k
  | dup => exact c_dup ho hd hs k
  | iadd => exact c_iadd ho hd hs k
  | imul => exact c_imul ho hd hs k
  | goto => exact c_goto ho hd hs k
  | if_icmp => exact c_icmp ho hd hs k
  | new => exact c_new ho hd hs k
  | newarray => exact c_newa ho hd hs k
  | getfield => exact c_get ho hd hs k
  | putfield => exact c_put ho hd hs k
  | iastore => exact c_iast ho hd hs k
  | arraylength => exact c_alen ho hd hs k
  | _ => exact nn hs
theorem crun_ok : ∀ (n : Nat) (S S' : cN), jcN own = (jyN y).cls → crun y own n S = some S' → ∃ mc ms, S'.2.2.2.2.1 = S.2.2.2.2.1 + mc ∧ S'.2.2.2.2.2 = S.2.2.2.2.2 + ms ∧ ∀ kc ks, J l g y d S'.1 (cL g h0.length S'.2.1) (cS g h0.length S'.2.2.1) (chp g h0 S'.2.2.2.1) kc ks Q → J l g y d S.1 (cL g h0.length S.2.1) (cS g h0.length S.2.2.1) (chp g h0 S.2.2.2.1) (mc + kc) (ms + ks) Q := by
  intro n
  induction n with
  | zero =>
    intro S S' ho hs
    cases hs
    exact ⟨0, 0, rfl, rfl, fun kc ks k => by rw [Nat.zero_add, Nat.zero_add]; exact k⟩
  | succ n ih =>
    intro S S' ho hs
    rw [crun] at hs
    cases hd0 : dcF y S.1 with
    | error e => rw [hd0] at hs; cases hs
    | ok q =>
      rw [hd0] at hs
      have hd := dQ hd0
      dsimp only at hs
      split at hs
      · cases hs
      · rename_i r hr
        obtain ⟨mc, ms, e1, e2, k2⟩ := ih _ _ ho hs
        dsimp only at e1 e2 k2
        refine ⟨r.2.2.2.2.1 + mc, r.2.2.2.2.2 + ms, by omega, by omega, fun kc ks k => ?_⟩
        rw [Nat.add_assoc, Nat.add_assoc]
        exact cstep_ok ho hd hr (k2 kc ks k)
theorem jobj_im : Cond.instanceMethod Lib.objectInit ∈ jtb := List.mem_filter.mpr ⟨List.mem_of_getElem? (i := 111) (by decide +kernel), by decide +kernel⟩
theorem jobj_co : Cond.code Lib.objectInit { data := #[177] } 1 none ∈ jtb := List.mem_filter.mpr ⟨List.mem_of_getElem? (i := 112) (by decide +kernel), by decide +kernel⟩
theorem jobj_nm : jyN 1 = Lib.objectInit := by decide +kernel
theorem j_obj {al : List (Option Value)} {st : List Value} {h : jH} {i a : Nat} (hd : decode (jbC y) pc = .ok (.invokespecial i, 3)) (ho : jcN own = (jyN y).cls) (hm : (own, i, 1) ∈ jeM) (hd1 : 1 ≤ d) (hst : (st.map fun v => v.category).sum ≤ 8) (k : J l g y d (pc + 3) al st h kc ks Q) : J l g y d pc al (.ref a :: st) h kc ks Q := by
  intro p e R s m args below meth c Z MC MS X K r1 r2 r3 r4 hZ H locs cells slots ls hW hl c1 c2
  have hts := X.2.2.2.2.2.1
  have hlk := hts _ (jeM_in _ hm)
  rw [jwM] at hlk
  simp only [jobj_nm] at hlk
  exact W.objInit X.1 X.2.1 (j_own X ho) hlk (hts _ jobj_im) (hts _ jobj_co) (g := F0 m pc ls (.ref a :: st)) rfl (hl.1.trans X.2.2.1.symm) rfl hd (by omega) (by show 2 * 0 + _ + 12 ≤ _; omega) (k p e R s m args below meth c Z MC MS X K r1 r2 r3 r4 hZ H locs cells slots ls hW hl c1 c2)
theorem fill_loop {h : jH} {n a : Nat} {f : Nat → Int32} {v : Int32} (hn : n ≤ 2147483647) (hc : h[a]? = some (.inl (0, n, f))) : ∀ (m k : Nat), n - k = m → k ≤ n → J l g 9 d 5 [some (.ref (g.2.2 + a)), some (.int v), some (.int (Int32.ofInt k)), some (.int (Int32.ofInt n))] [] (h.set a (.inl (0, n, fun i => if i < k then v else f i))) kc ks (fun r h' => r = none ∧ h' = h.set a (.inl (0, n, fun i => if i < n then v else f i))) := by
  intro m
  have hla : a < h.length := (List.getElem?_eq_some_iff.mp hc).1
  have t1 : (Int32.ofInt (n : Int)).toInt = n := i32_ofInt (by omega) (by omega)
  induction m with
  | zero =>
    intro k hm hk
    have e : k = n := by omega
    subst e
    refine j_iload_n (k4 := 2) (dQ (by decide +kernel)) rfl ?_
    refine j_iload_n (k4 := 3) (dQ (by decide +kernel)) rfl ?_
    refine j_icmp_ge (off := 13) (tgt := 20) (dQ (by decide +kernel)) (by decide) (fun _ => ?_) (fun q => absurd (Int32.le_iff_toInt_le.mpr (Int.le_refl _)) q)
    exact j_ret (v := none) ⟨by decide +kernel, by decide +kernel⟩ ⟨rfl, rfl⟩ rfl
  | succ m ih =>
    intro k hm hk
    have t2 : (Int32.ofInt (k : Int)).toInt = k := i32_ofInt (by omega) (by omega)
    have t3 := i32_clamp (i := Int32.ofInt (k : Int)) (by omega)
    refine j_iload_n (k4 := 2) (dQ (by decide +kernel)) rfl ?_
    refine j_iload_n (k4 := 3) (dQ (by decide +kernel)) rfl ?_
    refine j_icmp_ge (off := 13) (tgt := 20) (dQ (by decide +kernel)) (by decide) (fun q => ?_) (fun _ => ?_)
    · have := Int32.le_iff_toInt_le.mp q
      omega
    refine j_aload_n (k4 := 0) (dQ (by decide +kernel)) rfl ?_
    refine j_iload_n (k4 := 2) (dQ (by decide +kernel)) rfl ?_
    refine j_iload_n (k4 := 1) (dQ (by decide +kernel)) rfl ?_
    refine j_iast (a := a) (n := n) (dQ (by decide +kernel)) (List.getElem?_set_self hla) (i32_in (by omega) (by omega)) ?_
    refine j_iinc (i := 2) (n := 1) (dQ (by decide +kernel)) (by decide +kernel) rfl ?_
    refine j_goto (off := -12) (tgt := 5) (dQ (by decide +kernel)) (by decide) ?_
    have e1 : ((h.set a (.inl (0, n, fun i => if i < k then v else f i))).set a (.inl (0, n, upd (fun i => if i < k then v else f i) (Int32.ofInt (k : Int)).toNatClampNeg v))) = h.set a (.inl (0, n, fun i => if i < k + 1 then v else f i)) := by
      rw [List.set_set]
      congr 4
      funext i
      rw [upd]
      by_cases hi : i = (Int32.ofInt (k : Int)).toNatClampNeg
      · rw [if_pos hi, if_pos (by omega)]
      · rw [if_neg hi]
        by_cases hi2 : i < k
        · rw [if_pos hi2, if_pos (by omega)]
        · rw [if_neg hi2, if_neg (by omega)]
    rw [e1]
    have e2 : Int32.ofInt (k : Int) + Int32.ofInt 1 = Int32.ofInt ((k + 1 : Nat) : Int) := by rw [← Int32.ofInt_add]; rfl
    have := ih (k + 1) (by omega) (by omega)
    rw [← e2] at this
    exact this
theorem fill_ok {h : jH} {n a : Nat} {f : Nat → Int32} {v : Int32} (hn : n ≤ 2147483647) (hc : h[a]? = some (.inl (0, n, f))) : jCal l g 9 d [.ref (g.2.2 + a), .int v] h kc ks (fun r h' => r = none ∧ h' = h.set a (.inl (0, n, fun i => if i < n then v else f i))) := by
  refine jCal_of (by decide +kernel) (show 2 ≤ jmx 9 by decide +kernel) ?_
  have hla : a < h.length := (List.getElem?_eq_some_iff.mp hc).1
  show J l g 9 d 0 [some (.ref (g.2.2 + a)), some (.int v), none, none] [] h kc ks _
  refine j_iconst (n := 0) (dQ (by decide +kernel)) ?_
  refine j_istore_n (k4 := 2) (dQ (by decide +kernel)) (by decide +kernel) ?_
  refine j_aload_n (k4 := 0) (dQ (by decide +kernel)) rfl ?_
  refine j_alen (dQ (by decide +kernel)) (Or.inl rfl) hc ?_
  refine j_istore_n (k4 := 3) (dQ (by decide +kernel)) (by decide +kernel) ?_
  have := fill_loop (l := l) (g := g) (d := d) (kc := kc) (ks := ks) (v := v) hn hc n 0 (by omega) (by omega)
  rw [show (fun i => if i < 0 then v else f i) = f by funext i; rw [if_neg (by omega)]] at this
  obtain ⟨hla2, hc2⟩ := List.getElem?_eq_some_iff.mp hc
  rw [show h.set a (.inl (0, n, f)) = h by rw [← hc2]; exact List.set_getElem_self hla2] at this
  rw [show Int32.ofNat n = Int32.ofInt (n : Int) from Int32.ofInt_eq_ofNat.symm]
  exact this
theorem cS_cat {B : Nat} (h : stk.all (fun v => Nat.ble v.1 2) = true) : ((cS g B stk).map fun v => v.category).sum = stk.length := by
  induction stk with
  | nil => rfl
  | cons v t ih =>
    rw [List.all_cons, Bool.and_eq_true] at h
    show (cval g B v).category + ((cS g B t).map fun v => v.category).sum = t.length + 1
    rw [ih h.2, cvc h.1]
    omega
theorem cS_drop {B n : Nat} : (cS g B stk).drop n = cS g B (stk.drop n) := by rw [cS, cS, List.map_drop]
theorem all_drop {α : Type} {p : α → Bool} {l : List α} {n : Nat} (h : l.all p = true) : (l.drop n).all p = true := List.all_eq_true.mpr (fun x hx => List.all_eq_true.mp h x (List.mem_of_mem_drop hx))
theorem all_take {α : Type} {p : α → Bool} {l : List α} {n : Nat} (h : l.all p = true) : (l.take n).all p = true := List.all_eq_true.mpr (fun x hx => List.all_eq_true.mp h x (List.mem_of_mem_take hx))
theorem cS_jargs {B : Nat} : ∀ {av : List cV}, av.all (fun v => Nat.ble v.1 2) = true → jargs (cS g B av) = av.map (fun v => some (cval g B v)) := by
  intro av
  induction av with
  | nil => intro _; rfl
  | cons v t ih =>
    intro h
    rw [List.all_cons, Bool.and_eq_true] at h
    show jargs (cval g B v :: cS g B t) = _
    rw [jargs, cvc h.1, if_neg (by decide), ih h.2]
    rfl
theorem cloc_jal {B y2 : Nat} {av : List cV} (h : av.all (fun v => Nat.ble v.1 2) = true) : jal y2 (cS g B av) = cL g B (cloc y2 av) := by
  rw [jal, cS_jargs h, cL, cloc, List.map_append, List.map_map, List.map_replicate, List.length_map]
  rfl
theorem cev_ok : ∀ (n y own d pc : Nat) (loc : List (Option cV)) (stk : List cV) (H : List cC) (r : List cC × Nat × Nat), jcN own = (jyN y).cls → cev n y own d pc loc stk H = some r → J l g y d pc (cL g h0.length loc) (cS g h0.length stk) (chp g h0 H) r.2.1 r.2.2 (fun v h' => v = none ∧ h' = chp g h0 r.1) := by
  intro n
  induction n with
  | zero => intro y own d pc loc stk H r _ h; exact nn h
  | succ n ih =>
    intro y own d pc loc stk H r ho h
    unfold cev at h
    cases hd0 : dcF y pc with
    | error e => rw [hd0] at h; cases h
    | ok q =>
      rw [hd0] at h
      obtain ⟨i, len⟩ := q
      have hd := dQ hd0
      dsimp only at h
      split at h
      · obtain ⟨hb, h1⟩ := bif_some h
        simp only [Bool.and_eq_true, decide_eq_true_eq] at hb
        obtain ⟨⟨l0, c1⟩, c2⟩ := hb
        have hlen := Nat.eq_of_beq_eq_true l0
        subst hlen
        cases h1
        have hst : stk = [] := by cases stk with | nil => rfl | cons => cases c2
        subst hst
        exact j_ret (v := none) ⟨hd, c1⟩ ⟨rfl, rfl⟩ rfl
      · rename_i j
        obtain ⟨hb, h1⟩ := bif_some h
        simp only [Bool.and_eq_true] at hb
        have hlen := Nat.eq_of_beq_eq_true hb.1
        subst hlen
        have hd1 := blt_lt hb.2
        split at h1
        · cases h1
        · rename_i w hw
          split at h1
          · rename_i hf
            obtain ⟨hb2, h2⟩ := bif_some h1
            simp only [Bool.and_eq_true] at hb2
            obtain ⟨⟨⟨c0, c1⟩, c2⟩, c3⟩ := hb2
            have hm := jfindS_M hf c0
            have c2 := Nat.le_of_ble_eq_true c2
            match stk, hw with
            | w' :: stk, hw =>
              cases hw
              show J l g y d pc _ (cval g h0.length w :: cS g h0.length stk) _ _ _ _
              rw [cv1 c1]
              rw [List.all_cons, Bool.and_eq_true] at c3
              refine j_obj hd ho hm hd1 (by rw [cS_cat c3.2]; simp at c2; omega) ?_
              exact ih y own d (pc + 3) loc stk H r ho h2
          · cases h1
          · rename_i y2 _ hf
            obtain ⟨hb2, h2⟩ := bif_some h1
            simp only [Bool.and_eq_true, decide_eq_true_eq] at hb2
            obtain ⟨⟨⟨⟨⟨⟨⟨⟨⟨⟨⟨a1, a2⟩, a3⟩, a4⟩, a5⟩, a6⟩, a7⟩, a8⟩, a9⟩, a10⟩, a11⟩, a12⟩ := hb2
            have hy := blt_lt a1
            have hk := Nat.eq_of_beq_eq_true a2
            have a8 := Nat.le_of_ble_eq_true a8
            have a9 := Nat.le_of_ble_eq_true a9
            have a10 := Nat.le_of_ble_eq_true a10
            obtain ⟨m1, m2, -, -⟩ := je_mem hy
            split at h2
            · cases h2
            · rename_i r1 hr1
              split at h2
              · cases h2
              · rename_i r2 hr2
                cases h2
                split at a12
                · rename_i w' hw'
                  have hav : ((stk.take (jnp y2 + 1)).reverse).all (fun v => Nat.ble v.1 2) = true := by rw [List.all_reverse]; exact all_take a11
                  have hcal : jCal l g y2 (d - 1) (cS g h0.length (stk.take (jnp y2 + 1)).reverse) (chp g h0 H) r1.2.1 r1.2.2 (fun v h' => v = none ∧ h' = chp g h0 r1.1) := by
                    refine jCal_of a6 ?_ ?_
                    · rw [lg_jargs, cS_jargs hav]
                      simp
                      omega
                    · rw [cloc_jal hav]
                      exact ih y2 _ (d - 1) 0 _ [] H r1 a7 hr1
                  have e1 : cS g h0.length (stk.take (jnp y2 + 1)).reverse = .ref (g.2.2 + (h0.length + w'.2.toNat)) :: cS g h0.length (stk.take (jnp y2)).reverse := by
                    rw [List.take_add_one, hw']
                    simp only [Option.toList_some, List.reverse_append, List.reverse_cons, List.reverse_nil, List.nil_append, List.cons_append]
                    show cval g h0.length w' :: _ = _
                    rw [cv1 a12]
                    rfl
                  have e2 : cS g h0.length stk = (cS g h0.length (stk.take (jnp y2)).reverse).reverse ++ .ref (g.2.2 + (h0.length + w'.2.toNat)) :: cS g h0.length (stk.drop (jnp y2 + 1)) := by
                    have e3 := (List.take_append_drop (jnp y2 + 1) stk).symm
                    rw [List.take_add_one, hw'] at e3
                    conv => lhs; rw [e3]
                    rw [cS, cS, cS, List.map_reverse, List.reverse_reverse, List.map_append, List.map_append]
                    simp only [Option.toList_some, List.map_cons, List.map_nil, List.append_assoc, List.cons_append, List.nil_append]
                    rw [cv1 a12]
                  rw [e1] at hcal
                  rw [e2]
                  have hn2 : (cS g h0.length (stk.take (jnp y2)).reverse).length = jnp y2 := by rw [cS, List.length_map, List.length_reverse, List.length_take]; omega
                  have hst : ((cS g h0.length (stk.drop (jnp y2 + 1))).map fun v => v.category).sum ≤ 8 := by
                    rw [cS_cat (all_drop a11), List.length_drop]
                    omega
                  rcases jfindS_mem hf with hm | hm
                  · exact j_callI hd ho hm hy m1 m2 hk a3 a4 (List.contains_iff_mem.mp a5) hn2 (by omega) hst hcal (fun v h' hq => by
                      obtain ⟨rfl, rfl⟩ := hq
                      exact ih y own d (pc + 3) loc _ r1.1 r2 ho hr2)
                  · exact j_callIN hd ho hm hy m1 m2 hk a3 a4 (List.contains_iff_mem.mp a5) hn2 (by omega) hst hcal (fun v h' hq => by
                      obtain ⟨rfl, rfl⟩ := hq
                      exact ih y own d (pc + 3) loc _ r1.1 r2 ho hr2)
                · cases a12
      · rename_i j
        obtain ⟨hb, h1⟩ := bif_some h
        simp only [Bool.and_eq_true] at hb
        have hlen := Nat.eq_of_beq_eq_true hb.1
        subst hlen
        have hd1 := blt_lt hb.2
        split at h1
        · rename_i hf
          split at h1
          · rename_i v w stk
            obtain ⟨hb2, h2⟩ := bif_some h1
            simp only [Bool.and_eq_true] at hb2
            obtain ⟨⟨⟨⟨⟨c1, c2⟩, c3⟩, c4⟩, c5⟩, c6⟩ := hb2
            have c5 := Nat.le_of_ble_eq_true c5
            show J l g y d pc _ (cval g h0.length v :: cval g h0.length w :: cS g h0.length stk) _ _ _ _
            rw [cv0 c1, cv0 c2]
            refine j_mmax hd ho (jfind3_mem hf) hd1 (by rw [cS_cat c6]; exact c5) ?_
            have e : (if Int32.ofInt w.2 < Int32.ofInt v.2 then Int32.ofInt v.2 else Int32.ofInt w.2) = Int32.ofInt (bif decide (w.2 < v.2) then v.2 else w.2) := by
              by_cases hc : w.2 < v.2
              · rw [if_pos (i32_lt.mpr (by rw [cin_ok c3, cin_ok c4]; exact hc))]
                simp [hc]
              · rw [if_neg (fun q => hc (by have := i32_lt.mp q; rw [cin_ok c3, cin_ok c4] at this; exact this))]
                simp [hc]
            rw [e]
            exact ih y own d (pc + 3) loc _ H r ho h2
          · cases h1
        · rename_i hf
          split at h1
          · rename_i v w stk
            obtain ⟨hb2, h2⟩ := bif_some h1
            simp only [Bool.and_eq_true] at hb2
            obtain ⟨⟨⟨⟨⟨c1, c2⟩, c3⟩, c4⟩, c5⟩, c6⟩ := hb2
            have c4 := Nat.le_of_ble_eq_true c4
            have c6 := blt_lt c6
            split at h2
            · rename_i a hH
              obtain ⟨hb3, h3⟩ := bif_some h2
              simp only [Bool.and_eq_true] at hb3
              have t0 := Nat.eq_of_beq_eq_true hb3.1
              have t1 := Nat.le_of_ble_eq_true hb3.2
              have hc := chp_get (g := g) (h0 := h0) hH
              rw [show ccel g h0.length (.inl a) = .inl (a.1, a.2.1, fun i => if i < a.2.1 then Int32.ofInt (clook a.2.2.1 a.2.2.2 i) else 0) from rfl, t0] at hc
              show J l g y d pc _ ([cval g h0.length w, cval g h0.length v].reverse ++ cS g h0.length stk) _ _ _ _
              rw [cv0 c1, cv1 c2, show r.2.1 = 0 + r.2.1 by omega, show r.2.2 = 0 + r.2.2 by omega]
              refine j_cS (d2 := 1) hd ho (jfind3_mem hf) (by decide) (by decide +kernel) (show 2 = jnp 9 by decide +kernel) (by omega) (by rw [cS_cat c5]; exact c4) (fill_ok t1 hc) (fun v' h' hq => ?_)
              obtain ⟨rfl, rfl⟩ := hq
              have e := chp_set (g := g) (h0 := h0) (H := H) (a := w.2.toNat) (c := .inl (a.1, a.2.1, v.2, []))
              rw [show ccel g h0.length (.inl (a.1, a.2.1, v.2, [])) = .inl (a.1, a.2.1, fun i => if i < a.2.1 then Int32.ofInt v.2 else 0) from rfl, t0] at e
              have ef : (fun i => if i < a.2.1 then Int32.ofInt v.2 else if i < a.2.1 then Int32.ofInt (clook a.2.2.1 a.2.2.2 i) else 0) = fun i => if i < a.2.1 then Int32.ofInt v.2 else 0 := by
                funext i
                by_cases hi : i < a.2.1
                · rw [if_pos hi, if_pos hi]
                · rw [if_neg hi, if_neg hi, if_neg hi]
              rw [ef, e]
              rw [t0] at h3
              exact ih y own d (pc + 3) loc _ _ r ho h3
            · cases h2
          · cases h1
        · cases h1
      · split at h
        · cases h
        · rename_i r1 hr1
          split at h
          · cases h
          · rename_i r2 hr2
            cases h
            exact cstep_ok ho hd hr1 (ih y own d _ _ _ _ r2 ho hr2)
end CO
end
section
/-! all contracts together -/
theorem ck_all_of {P : List aR} {N : Nat} (hN : KTx.length ≤ N) (hc : ∀ k, k < N → ckOne P k = true) {g : jG} {EI : aB → jH → Prop} {l : Launch} (hEI : eiOK TTs g EI P)
    (hh : ∀ (k : Nat) (K : aK), hdL.contains k = true → KTx[k]? = some K → (∀ (k' : Nat) (K' : aK), k' < k → KTx[k']? = some K' → kOK TTs g EI l K') → kOK TTs g EI l K) :
    ∀ (k : Nat) (K : aK), KTx[k]? = some K → kOK TTs g EI l K := by
  intro k
  induction k using Nat.strongRecOn with
  | ind k ih =>
    intro K hK
    have hk : k < N := Nat.lt_of_lt_of_le (List.getElem?_eq_some_iff.mp hK).1 hN
    have h1 := hc k hk
    rw [ckOne, Bool.or_eq_true] at h1
    rcases h1 with h1 | h1
    · exact hh k K h1 hK (fun k' K' hk' hK' => ih k' hk' K' hK')
    · rw [hK] at h1
      split at h1
      · rename_i q K2 hq hK2
        cases hK2
        rw [Bool.and_eq_true] at h1
        exact kchk_ok TTs_cl TTs_sg hEI (fun k' K' hK' hk' => ih k' hk' K' hK') hK h1.1 h1.2
      · cases h1
end
section
/-! NEW BLOCKS: what a constructor leaves is of its types -/
def inB (q : Int × Int) (z : Int) : Bool := decide (q.1 ≤ z) && decide (z ≤ q.2)
def sgU (s : aSeg) (w : Nat × Nat × Int) : Bool := Nat.ble (w.1 + w.2.1) s.1 || Nat.ble (s.1 + s.2.1) w.1 || (bif Nat.beq w.2.1 1 then (match s.2.2.2[(w.1 - s.1) % s.2.2.1]? with
  | some q => inB q w.2.2
  | none => true) else s.2.2.2.all (fun q => inB q w.2.2))
def sgC (s : aSeg) (d : Int) : List (Nat × Nat × Int) → Bool
  | [] => s.2.2.2.all (fun q => inB q d)
  | w :: t => sgU s w && ((Nat.ble w.1 s.1 && Nat.ble (s.1 + s.2.1) (w.1 + w.2.1)) || sgC s d t)
theorem inB_ok {q : Int × Int} {z : Int} (h : inB q z = true) : q.1 ≤ z ∧ z ≤ q.2 := by
  simp only [inB, Bool.and_eq_true, decide_eq_true_eq] at h
  exact h
theorem sgC_ok {s : aSeg} {d : Int} {i : Nat} {q : Int × Int} (h1 : s.1 ≤ i) (h2 : i < s.1 + s.2.1) (hq : s.2.2.2[(i - s.1) % s.2.2.1]? = some q) : ∀ (u : List (Nat × Nat × Int)), sgC s d u = true → q.1 ≤ clook d u i ∧ clook d u i ≤ q.2 := by
  intro u
  induction u with
  | nil =>
    intro h
    exact inB_ok (List.all_eq_true.mp h q (List.mem_of_getElem? hq))
  | cons w t ih =>
    intro h
    rw [sgC, Bool.and_eq_true] at h
    rw [clook]
    cases hb : (Nat.ble w.1 i && Nat.blt i (w.1 + w.2.1)) with
    | true =>
      simp only [cond_true]
      rw [Bool.and_eq_true] at hb
      have b1 := Nat.le_of_ble_eq_true hb.1
      have b2 := blt_lt hb.2
      have h3 := h.1
      rw [sgU, Bool.or_eq_true, Bool.or_eq_true] at h3
      rcases h3 with (h3 | h3) | h3
      · have := Nat.le_of_ble_eq_true h3
        omega
      · have := Nat.le_of_ble_eq_true h3
        omega
      · cases ho : Nat.beq w.2.1 1 with
        | true =>
          rw [ho] at h3
          simp only [cond_true] at h3
          have e := Nat.eq_of_beq_eq_true ho
          have e2 : w.1 = i := by omega
          rw [e2, hq] at h3
          exact inB_ok h3
        | false =>
          rw [ho] at h3
          simp only [cond_false] at h3
          exact inB_ok (List.all_eq_true.mp h3 q (List.mem_of_getElem? hq))
    | false =>
      simp only [cond_false]
      have h4 := h.2
      rw [Bool.or_eq_true, Bool.and_eq_true] at h4
      rcases h4 with ⟨h4, h5⟩ | h4
      · exfalso
        have a1 := Nat.le_of_ble_eq_true h4
        have a2 := Nat.le_of_ble_eq_true h5
        have : (Nat.ble w.1 i && Nat.blt i (w.1 + w.2.1)) = true := by
          rw [Bool.and_eq_true]
          exact ⟨Nat.ble_eq_true_of_le (by omega), Nat.ble_eq_true_of_le (by omega)⟩
        rw [this] at hb
        cases hb
      · exact ih h4
/-- B: the block; nl: fields of blocks that aren't there may be null -/
def ctyF (B : Nat) (t : aT) (v : cV) : Bool := match t.1 with
  | 0 => Nat.beq v.1 0 && cin v.2 && inB (t.2.1, t.2.2.1) v.2
  | 1 => Nat.beq v.1 3 && Nat.beq v.2.natAbs 0 && inB (t.2.1, t.2.2.1) 0
  | 2 => Nat.beq v.1 1 && Nat.beq t.2.2.2.1 B && Nat.beq v.2.toNat t.2.2.2.2
  | 3 => Nat.beq v.1 2 && Nat.ble 2 t.2.2.2.1
  | _ => Nat.beq v.1 2
def ctyC (B : Nat) (t : aCT) (c : cC) : Bool := match t, c with
  | .inl a, .inl b => Nat.beq a.1 b.1 && Nat.beq a.2.1 b.2.1 && cin b.2.2.1 && b.2.2.2.all (fun w => cin w.2.2) && a.2.2.all (fun s => sgC s b.2.2.1 b.2.2.2)
  | .inr o, .inr p => Nat.beq o.1 p.1 && Nat.beq o.2.length p.2.length && (List.range o.2.length).all (fun k => match o.2[k]?, p.2[k]? with
    | some t, some v => ctyF B t v
    | _, _ => false)
  | _, _ => false
def ctyH (B : Nat) (ts : List aCT) (H : List cC) : Bool := Nat.beq ts.length H.length && (List.range ts.length).all (fun k => match ts[k]?, H[k]? with
  | some t, some c => ctyC B t c
  | _, _ => false)
theorem clook_cin {d : Int} {u : List (Nat × Nat × Int)} (h1 : cin d = true) (h2 : u.all (fun w => cin w.2.2) = true) (i : Nat) : cin (clook d u i) = true := by
  induction u with
  | nil => exact h1
  | cons w t ih =>
    rw [List.all_cons, Bool.and_eq_true] at h2
    rw [clook]
    cases (Nat.ble w.1 i && Nat.blt i (w.1 + w.2.1)) with
    | true => exact h2.1
    | false => exact ih h2.2
section CI
variable {g : jG} {bk : aB} {B b0 : Nat}
theorem ctyF_ok {t : aT} {v : cV} (hB : bk B = some b0) (hab : ∀ B', 2 ≤ B' → t.1 = 3 → bk B' = none) (h : ctyF B t v = true) : ftOK g bk t (cval g b0 v) := by
  obtain ⟨k, lo, hi, B2, o2⟩ := t
  match k, h, hab with
  | 0, h, _ =>
    simp only [ctyF, Bool.and_eq_true] at h
    obtain ⟨⟨a1, a2⟩, a3⟩ := h
    rw [cv0 a1]
    have a4 := inB_ok a3
    exact ⟨_, rfl, by rw [cin_ok a2]; exact a4.1, by rw [cin_ok a2]; exact a4.2⟩
  | 1, h, _ =>
    simp only [ctyF, Bool.and_eq_true] at h
    obtain ⟨⟨a1, a2⟩, a3⟩ := h
    have e1 := Nat.eq_of_beq_eq_true a1
    have e2 := Nat.eq_of_beq_eq_true a2
    have e3 : v.2 = 0 := by omega
    have a4 := inB_ok a3
    refine ⟨0, ?_, a4.1, a4.2⟩
    rw [cval, e1, e3]
    rfl
  | 2, h, _ =>
    simp only [ctyF, Bool.and_eq_true] at h
    obtain ⟨⟨a1, a2⟩, a3⟩ := h
    have e1 := Nat.eq_of_beq_eq_true a2
    have e2 := Nat.eq_of_beq_eq_true a3
    rw [cv1 a1, e2]
    exact ⟨b0, by show bk B2 = _; rw [show B2 = B from e1]; exact hB, rfl⟩
  | 3, h, hab =>
    simp only [ctyF, Bool.and_eq_true] at h
    have e1 := Nat.eq_of_beq_eq_true h.1
    refine Or.inr ⟨hab _ (Nat.le_of_ble_eq_true h.2) rfl, ?_⟩
    rw [cval, e1]
    rfl
  | n + 4, h, _ =>
    have e1 : v.1 = 2 := Nat.eq_of_beq_eq_true h
    refine Or.inr ?_
    rw [cval, e1]
    rfl
theorem ctyC_ok {t : aCT} {c : cC} (hB : bk B = some b0) (hab : ∀ (o : Nat × List aT) (q : aT), t = .inr o → q ∈ o.2 → ∀ B', 2 ≤ B' → q.1 = 3 → bk B' = none) (h : ctyC B t c = true) : ctOK g bk t (ccel g b0 c) := by
  match t, c, h, hab with
  | .inl a, .inl b, h, _ =>
    simp only [ctyC, Bool.and_eq_true] at h
    obtain ⟨⟨⟨⟨a1, a2⟩, a3⟩, a4⟩, a5⟩ := h
    have e1 := Nat.eq_of_beq_eq_true a1
    have e2 := Nat.eq_of_beq_eq_true a2
    refine ⟨fun i => if i < b.2.1 then Int32.ofInt (clook b.2.2.1 b.2.2.2 i) else 0, ?_, fun i hi => ?_⟩
    · rw [e1, e2]
      rfl
    · intro s hs h1 h2 q hq
      dsimp only
      rw [if_pos (by omega), cin_ok (clook_cin a3 a4 i)]
      exact sgC_ok h1 h2 hq _ (List.all_eq_true.mp a5 s hs)
  | .inr o, .inr p, h, hab =>
    simp only [ctyC, Bool.and_eq_true] at h
    obtain ⟨⟨a1, a2⟩, a3⟩ := h
    have e1 := Nat.eq_of_beq_eq_true a1
    have e2 := Nat.eq_of_beq_eq_true a2
    refine ⟨p.2.map (cval g b0), ?_, by rw [List.length_map]; exact e2.symm, fun k t hk => ?_⟩
    · rw [e1]
      rfl
    · have hlt : k < o.2.length := (List.getElem?_eq_some_iff.mp hk).1
      have h4 := List.all_eq_true.mp a3 k (List.mem_range.mpr hlt)
      rw [hk] at h4
      split at h4
      · rename_i t' v' ht' hv'
        cases ht'
        exact ⟨cval g b0 v', by rw [List.getElem?_map, hv']; rfl, ctyF_ok hB (hab o t rfl (List.mem_of_getElem? hk)) h4⟩
      · cases h4
  | .inl _, .inr _, h, _ => cases h
  | .inr _, .inl _, h, _ => cases h
theorem ctyH_ok {ts : List aCT} {H : List cC} {h0 : jH} {o : Nat} {t : aCT} (hB : bk B = some h0.length) (hab : ∀ (o : Nat × List aT) (q : aT), .inr o ∈ ts → q ∈ o.2 → ∀ B', 2 ≤ B' → q.1 = 3 → bk B' = none) (h : ctyH B ts H = true) (ht : ts[o]? = some t) : ∃ c, (chp g h0 H)[h0.length + o]? = some c ∧ ctOK g bk t c := by
  simp only [ctyH, Bool.and_eq_true] at h
  have hlt : o < ts.length := (List.getElem?_eq_some_iff.mp ht).1
  have h4 := List.all_eq_true.mp h.2 o (List.mem_range.mpr hlt)
  rw [ht] at h4
  split at h4
  · rename_i t' c hc1 hc
    cases hc1
    exact ⟨_, chp_get hc, ctyC_ok hB (fun q r he hr => hab q r (by rw [← he]; exact List.mem_of_getElem? ht) hr) h4⟩
  · cases h4
end CI
end
section
/-! THE REFERENCE'S CONSTRUCTOR: its loop over the codes by hand, the rest cell by cell -/
section MI
variable {l : Launch} {g : jG} {d kc ks : Nat} {Q : Option Value → jH → Prop} {h0 : jH}
theorem codes_loop {h : jH} {b a : Nat} {fs : List Value} {f : Nat → Int32} (hab : ¬ a = b) (ho : h[b]? = some (.inr (12, fs))) (hf : fs[2]? = some (.ref (g.2.2 + a))) (hc : h[a]? = some (.inl (0, 5270, f)))
    (k0 : J l g 203 d 288 [some (.ref (g.2.2 + b)), some (.int (Int32.ofInt (300 : Nat)))] [] (h.set a (.inl (0, 5270, fun i => if 80 ≤ i ∧ i < 380 then 999 else f i))) kc ks Q) :
    ∀ (m k : Nat), 300 - k = m → k ≤ 300 → J l g 203 d 263 [some (.ref (g.2.2 + b)), some (.int (Int32.ofInt k))] [] (h.set a (.inl (0, 5270, fun i => if 80 ≤ i ∧ i < 80 + k then 999 else f i))) kc ks Q := by
  have hla : a < h.length := (List.getElem?_eq_some_iff.mp hc).1
  intro m
  induction m with
  | zero =>
    intro k hm hk
    have e : k = 300 := by omega
    subst e
    refine j_iload_n (k4 := 1) (dQ (by decide +kernel)) rfl ?_
    refine j_sipush (n := 300) (dQ (by decide +kernel)) ?_
    refine j_icmp_ge (off := 21) (tgt := 288) (dQ (by decide +kernel)) (by decide) (fun _ => k0) (fun q => absurd (by decide) q)
  | succ m ih =>
    intro k hm hk
    have t2 : (Int32.ofInt (k : Int)).toInt = k := i32_ofInt (by omega) (by omega)
    have t4 : (Int8.ofInt 80).toInt32 + Int32.ofInt (k : Int) = Int32.ofInt ((80 + k : Nat) : Int) := by
      rw [show (Int8.ofInt 80).toInt32 = Int32.ofInt 80 by decide, ← Int32.ofInt_add]
      rfl
    have t5 : (Int32.ofInt ((80 + k : Nat) : Int)).toInt = ((80 + k : Nat) : Int) := i32_ofInt (by omega) (by omega)
    have t6 := i32_clamp (i := Int32.ofInt ((80 + k : Nat) : Int)) (by omega)
    refine j_iload_n (k4 := 1) (dQ (by decide +kernel)) rfl ?_
    refine j_sipush (n := 300) (dQ (by decide +kernel)) ?_
    refine j_icmp_ge (off := 21) (tgt := 288) (dQ (by decide +kernel)) (by decide) (fun q => ?_) (fun _ => ?_)
    · have := Int32.le_iff_toInt_le.mp q
      rw [t2, show (Int16.ofInt 300).toInt32.toInt = 300 by decide] at this
      omega
    refine j_aload_n (k4 := 0) (dQ (by decide +kernel)) rfl ?_
    refine j_get (own := 12) (i := 7) (ci := 12) (f := 2) (fs := fs) (dQ (by decide +kernel)) (by decide +kernel) (by decide +kernel) (by rw [List.getElem?_set_ne hab]; exact ho) (fun r hr => by cases hr; decide +kernel) hf ?_
    refine j_bipush (n := 80) (dQ (by decide +kernel)) ?_
    refine j_iload_n (k4 := 1) (dQ (by decide +kernel)) rfl ?_
    refine j_iadd (dQ (by decide +kernel)) ?_
    refine j_sipush (n := 999) (dQ (by decide +kernel)) ?_
    rw [t4]
    refine j_iast (a := a) (n := 5270) (dQ (by decide +kernel)) (List.getElem?_set_self hla) (i32_in (by omega) (by omega)) ?_
    refine j_iinc (i := 1) (n := 1) (dQ (by decide +kernel)) (by decide +kernel) rfl ?_
    refine j_goto (off := -22) (tgt := 263) (dQ (by decide +kernel)) (by decide) ?_
    have e1 : ((h.set a (.inl (0, 5270, fun i => if 80 ≤ i ∧ i < 80 + k then 999 else f i))).set a (.inl (0, 5270, upd (fun i => if 80 ≤ i ∧ i < 80 + k then 999 else f i) (Int32.ofInt ((80 + k : Nat) : Int)).toNatClampNeg (Int16.ofInt 999).toInt32))) = h.set a (.inl (0, 5270, fun i => if 80 ≤ i ∧ i < 80 + (k + 1) then 999 else f i)) := by
      rw [List.set_set]
      congr 4
      funext i
      rw [upd]
      by_cases hi : i = (Int32.ofInt ((80 + k : Nat) : Int)).toNatClampNeg
      · rw [if_pos hi, if_pos (by omega)]
        decide
      · rw [if_neg hi]
        by_cases hi2 : 80 ≤ i ∧ i < 80 + k
        · rw [if_pos hi2, if_pos (by omega)]
        · rw [if_neg hi2, if_neg (by omega)]
    rw [e1]
    have e2 : Int32.ofInt (k : Int) + Int32.ofInt 1 = Int32.ofInt ((k + 1 : Nat) : Int) := by rw [← Int32.ofInt_add]; rfl
    have := ih (k + 1) (by omega) (by omega)
    rw [← e2] at this
    exact this
/-- up to the loop over the codes; and from behind it to the end -/
def mS1 : Option cN := crun 203 12 341 (4, cloc 203 [(1, 0)], [], [.inr (12, cdfT.getD 12 [])], 0, 0)
def mS2 : Option cN := match mS1 with
  | some S => (match (S.2.2.2.1 : List cC)[1]? with
    | some (Sum.inl a) => crun 203 12 47 (288, [some (1, 0), some (0, 300)], [], S.2.2.2.1.set 1 (.inl (a.1, a.2.1, a.2.2.1, (80, 300, 999) :: a.2.2.2)), S.2.2.2.2)
    | _ => none)
  | none => none
def mOKs : Bool := match mS1 with
  | some S => decide (S.1 = 263) && decide (S.2.1 = [some (1, 0), some (0, 0)]) && decide (S.2.2.1 = []) && (match (S.2.2.2.1 : List cC)[0]?, (S.2.2.2.1 : List cC)[1]? with
    | some (Sum.inr o), some (Sum.inl a) => decide (o.1 = 12) && decide (o.2[2]? = some (1, 1)) && decide (a.1 = 0) && decide (a.2.1 = 5270)
    | _, _ => false) && (match mS2 with
    | some S2 => decide (S2.1 = 314) && decide (S2.2.2.1 = []) && ctyH 1 TT_1 S2.2.2.2.1 && decide (S2.2.2.2.2.1 = 25) && decide (S2.2.2.2.2.2 = 195855)
    | none => false)
  | none => false
theorem mOKs_ok : mOKs = true := by decide +kernel

theorem minit_ok {mc ms : Nat} (hmc : mc = 25) (hms : ms = 195855) (hd : 1 ≤ d) : jCal l g 203 d [.ref (g.2.2 + h0.length)] (chp g h0 [.inr (12, cdfT.getD 12 [])]) mc ms (fun v h' => v = none ∧ ∃ H, h' = chp g h0 H ∧ ctyH 1 TT_1 H = true) := by
  have hm := mOKs_ok
  unfold mOKs at hm
  cases h1 : mS1 with
  | none => rw [h1] at hm; cases hm
  | some S =>
    rw [h1] at hm
    simp only [Bool.and_eq_true, decide_eq_true_eq] at hm
    obtain ⟨⟨⟨⟨c1, c2⟩, c3⟩, c4⟩, c5⟩ := hm
    split at c4
    · rename_i o a ho ha
      simp only [Bool.and_eq_true, decide_eq_true_eq] at c4
      obtain ⟨⟨⟨d1, d2⟩, d3⟩, d4⟩ := c4
      cases h2 : mS2 with
      | none => rw [h2] at c5; cases c5
      | some S2 =>
        rw [h2] at c5
        simp only [Bool.and_eq_true, decide_eq_true_eq] at c5
        obtain ⟨⟨⟨⟨e1, e2⟩, e3⟩, e4⟩, e5⟩ := c5
        unfold mS2 at h2
        rw [h1] at h2
        dsimp only at h2
        rw [ha] at h2
        dsimp only at h2
        unfold mS1 at h1
        have hcls : jcN 12 = (jyN 203).cls := by decide +kernel
        obtain ⟨mc1, ms1, f1, f2, K1⟩ := crun_ok (l := l) (g := g) (d := d) (h0 := h0) (Q := fun v h' => v = none ∧ ∃ H, h' = chp g h0 H ∧ ctyH 1 TT_1 H = true) 341 _ S hcls h1
        obtain ⟨mc2, ms2, f3, f4, K2⟩ := crun_ok (l := l) (g := g) (d := d) (h0 := h0) (Q := fun v h' => v = none ∧ ∃ H, h' = chp g h0 H ∧ ctyH 1 TT_1 H = true) 47 _ S2 hcls h2
        dsimp only at f1 f2 f3 f4 K1 K2
        refine jCal_of (by decide +kernel) (show 1 ≤ jmx 203 by decide +kernel) ?_
        show J l g 203 d 0 [some (.ref (g.2.2 + h0.length)), none] [] (chp g h0 [.inr (12, cdfT.getD 12 [])]) mc ms _
        refine j_aload_n (k4 := 0) (dQ (by decide +kernel)) rfl ?_
        refine j_obj (own := 12) (i := 1) (dQ (by decide +kernel)) hcls (by decide +kernel) hd (by decide) ?_
        rw [show mc = mc1 + mc2 by omega, show ms = ms1 + ms2 by omega]
        refine K1 mc2 ms2 ?_
        rw [c1, c2, c3]
        have ho2 := chp_get (g := g) (h0 := h0) ho
        rw [show ccel g h0.length (.inr o) = .inr (o.1, o.2.map (cval g h0.length)) from rfl, d1] at ho2
        have ha2 := chp_get (g := g) (h0 := h0) ha
        rw [show ccel g h0.length (.inl a) = .inl (a.1, a.2.1, fun i => if i < a.2.1 then Int32.ofInt (clook a.2.2.1 a.2.2.2 i) else 0) from rfl, d3, d4] at ha2
        have hfin : J l g 203 d 288 [some (.ref (g.2.2 + h0.length)), some (.int (Int32.ofInt (300 : Nat)))] [] ((chp g h0 S.2.2.2.1).set (h0.length + 1) (.inl (0, 5270, fun i => if 80 ≤ i ∧ i < 380 then 999 else (fun i => if i < 5270 then Int32.ofInt (clook a.2.2.1 a.2.2.2 i) else 0) i))) mc2 ms2 (fun v h' => v = none ∧ ∃ H, h' = chp g h0 H ∧ ctyH 1 TT_1 H = true) := by
          have e := chp_set (g := g) (h0 := h0) (H := S.2.2.2.1) (a := 1) (c := .inl (a.1, a.2.1, a.2.2.1, (80, 300, 999) :: a.2.2.2))
          rw [show ccel g h0.length (.inl (a.1, a.2.1, a.2.2.1, (80, 300, 999) :: a.2.2.2)) = .inl (a.1, a.2.1, fun i => if i < a.2.1 then Int32.ofInt (clook a.2.2.1 ((80, 300, 999) :: a.2.2.2) i) else 0) from rfl, d3, d4] at e
          have ef : (fun i => if 80 ≤ i ∧ i < 380 then (999 : Int32) else (fun i => if i < 5270 then Int32.ofInt (clook a.2.2.1 a.2.2.2 i) else 0) i) = fun i => if i < 5270 then Int32.ofInt (clook a.2.2.1 ((80, 300, 999) :: a.2.2.2) i) else 0 := by
            funext i
            dsimp only
            rw [clook]
            by_cases hi : 80 ≤ i ∧ i < 380
            · rw [if_pos hi, if_pos (by omega), show (Nat.ble 80 i && Nat.blt i (80 + 300)) = true by rw [Bool.and_eq_true]; exact ⟨Nat.ble_eq_true_of_le (by omega), Nat.ble_eq_true_of_le (by omega)⟩]
              show (999 : Int32) = Int32.ofInt 999
              decide
            · rw [if_neg hi, show (Nat.ble 80 i && Nat.blt i (80 + 300)) = false from by cases hbq : (Nat.ble 80 i && Nat.blt i (80 + 300)) with | false => rfl | true => rw [Bool.and_eq_true] at hbq; have h5 := Nat.le_of_ble_eq_true hbq.1; have h6 := blt_lt hbq.2; omega]
              rfl
          rw [ef, e]
          have hk := K2 0 0 (by
            rw [e1, e2]
            exact j_ret (v := none) ⟨by decide +kernel, by decide +kernel⟩ ⟨rfl, _, rfl, e3⟩ rfl)
          rw [d3, d4] at hk
          exact hk
        have hl := codes_loop (l := l) (d := d) (by omega) ho2 (by rw [List.getElem?_map, d2]; rfl) ha2 hfin 300 0 rfl (by omega)
        have eh : (chp g h0 S.2.2.2.1).set (h0.length + 1) (.inl (0, 5270, fun i => if 80 ≤ i ∧ i < 80 + 0 then 999 else (fun i => if i < 5270 then Int32.ofInt (clook a.2.2.1 a.2.2.2 i) else 0) i)) = chp g h0 S.2.2.2.1 := by
          rw [show (fun i => if 80 ≤ i ∧ i < 80 + 0 then (999 : Int32) else (fun i => if i < 5270 then Int32.ofInt (clook a.2.2.1 a.2.2.2 i) else 0) i) = (fun i => if i < 5270 then Int32.ofInt (clook a.2.2.1 a.2.2.2 i) else 0) by funext i; rw [if_neg (by omega)]]
          obtain ⟨q1, q2⟩ := List.getElem?_eq_some_iff.mp ha2
          rw [← q2]
          exact List.set_getElem_self q1
        rw [eh] at hl
        exact hl
    · cases c4
end MI
end
section
/-! note, walked by hand -/
section NT
variable {l : Launch} {g : jG} {d kc ks : Nat} {Q : Option Value → jH → Prop} {h : jH}
/-- the row behind a note at place t of the log -/
def nf (f : Nat → Int32) (t : Nat) (kind start goal name : Int32) : Nat → Int32 := upd (upd (upd (upd (upd (upd f (624 + 5 * t) (f 0)) (624 + 5 * t + 1) kind) (624 + 5 * t + 2) start) (624 + 5 * t + 3) goal) (624 + 5 * t + 4) name) 1 (f 1 + Int32.ofInt 1)
theorem i32_at {x : Int32} {n : Nat} (h : x.toInt = (n : Int)) : x.toNatClampNeg = n := by
  have := i32_clamp (i := x) (by omega)
  omega
theorem i32_addn {x : Int32} {n : Nat} {j : Int} (hx : x.toInt = (n : Int)) (hj : 0 ≤ j ∧ j ≤ 100) (hn : n ≤ 100000) : (x + Int32.ofInt j).toInt = (n : Int) + j := by
  have e : x = Int32.ofInt (n : Int) := by rw [← hx, Int32.ofInt_toInt]
  rw [e, ← Int32.ofInt_add]
  exact i32_ofInt (by omega) (by omega)
theorem set2 {α : Type} {l : List α} {i : Nat} {x y : α} : (l.set i x).set i y = l.set i y := List.set_set ..
theorem note_run {b : Nat} {fs : List Value} {f : Nat → Int32} {kind start goal name : Int32} {o5 : Option Value} (ho : h[b]? = some (.inr (12, fs))) (hf : fs[2]? = some (.ref (g.2.2 + (b + 1)))) (hr : h[b + 1]? = some (.inl (0, 5270, f))) (hL : 0 ≤ (f 1).toInt)
    (k : Q none (h.set (b + 1) (.inl (0, 5270, nf f ((f 1).toInt % 100).toNat kind start goal name)))) : J l g 245 d 0 [some (.ref (g.2.2 + b)), some (.int kind), some (.int start), some (.int goal), some (.int name), o5] [] h kc ks Q := by
  have hla : b + 1 < h.length := (List.getElem?_eq_some_iff.mp hr).1
  have hob : ∀ c : jC, (h.set (b + 1) c)[b]? = some (.inr (12, fs)) := fun c => by rw [List.getElem?_set_ne (by omega)]; exact ho
  have hself : ∀ c : jC, (h.set (b + 1) c)[b + 1]? = some c := fun c => List.getElem?_set_self hla
  have hn2 : ∀ r, jcl[12]? = some r → 2 < r.2.2 := fun r hr => by cases hr; decide +kernel
  have hcls : jcN 12 = (jyN 245).cls := by decide +kernel
  have h12 : (12, 7, 12, 2) ∈ jeF := by decide +kernel
  generalize ht : ((f 1).toInt % 100).toNat = t at k
  have htb : t < 100 := by omega
  have h100 : (Int8.ofInt 100).toInt32 = Int32.ofInt 100 := by decide
  have h624 : (Int16.ofInt 624).toInt32 = Int32.ofInt 624 := by decide
  refine j_sipush (n := 624) (dQ (by decide +kernel)) ?_
  refine j_iconst (n := 5) (dQ (by decide +kernel)) ?_
  refine j_aload_n (k4 := 0) (dQ (by decide +kernel)) rfl ?_
  refine j_get (own := 12) (i := 7) (ci := 12) (f := 2) (dQ (by decide +kernel)) hcls h12 ho hn2 hf ?_
  refine j_iconst (n := 1) (dQ (by decide +kernel)) ?_
  refine j_iald (dQ (by decide +kernel)) hr (i32_in (by decide) (by decide)) ?_
  refine j_bipush (n := 100) (dQ (by decide +kernel)) ?_
  refine j_irem (dQ (by decide +kernel)) (by decide) ?_
  refine j_imul (dQ (by decide +kernel)) ?_
  refine j_iadd (dQ (by decide +kernel)) ?_
  rw [h100, h624]
  have e1 : f (Int32.ofInt 1).toNatClampNeg = f 1 := rfl
  rw [e1]
  have e2 : (f 1 - f 1 / Int32.ofInt 100 * Int32.ofInt 100).toInt = (t : Int) := by
    rw [i32_rem hL (by decide)]
    rw [show (Int32.ofInt 100).toInt = 100 by decide]
    omega
  generalize (f 1 - f 1 / Int32.ofInt 100 * Int32.ofInt 100) = x at e2
  have e3 : (Int32.ofInt 624 + Int32.ofInt 5 * x).toInt = ((624 + 5 * t : Nat) : Int) := by
    have e : x = Int32.ofInt (t : Int) := by rw [← e2, Int32.ofInt_toInt]
    rw [e, ← Int32.ofInt_mul, ← Int32.ofInt_add]
    rw [i32_ofInt (by omega) (by omega)]
    omega
  generalize (Int32.ofInt 624 + Int32.ofInt 5 * x) = kk at e3
  have c0 := i32_at e3
  have d1 : (kk + Int32.ofInt 1).toInt = ((624 + 5 * t + 1 : Nat) : Int) := by
    rw [i32_addn e3 (by omega) (by omega)]
    omega
  have d2 : (kk + Int32.ofInt 2).toInt = ((624 + 5 * t + 2 : Nat) : Int) := by
    rw [i32_addn e3 (by omega) (by omega)]
    omega
  have d3 : (kk + Int32.ofInt 3).toInt = ((624 + 5 * t + 3 : Nat) : Int) := by
    rw [i32_addn e3 (by omega) (by omega)]
    omega
  have d4 : (kk + Int32.ofInt 4).toInt = ((624 + 5 * t + 4 : Nat) : Int) := by
    rw [i32_addn e3 (by omega) (by omega)]
    omega
  refine j_istore (i := 5) (dQ (by decide +kernel)) (by decide +kernel) ?_
  -- minute
  refine j_aload_n (k4 := 0) (dQ (by decide +kernel)) rfl ?_
  refine j_get (own := 12) (i := 7) (ci := 12) (f := 2) (dQ (by decide +kernel)) hcls h12 ho hn2 hf ?_
  refine j_iload (i := 5) (dQ (by decide +kernel)) rfl ?_
  refine j_aload_n (k4 := 0) (dQ (by decide +kernel)) rfl ?_
  refine j_get (own := 12) (i := 7) (ci := 12) (f := 2) (dQ (by decide +kernel)) hcls h12 ho hn2 hf ?_
  refine j_iconst (n := 0) (dQ (by decide +kernel)) ?_
  refine j_iald (dQ (by decide +kernel)) hr (i32_in (by decide) (by decide)) ?_
  refine j_iast (dQ (by decide +kernel)) hr (i32_in (by omega) (by omega)) ?_
  rw [c0]
  -- kind
  refine j_aload_n (k4 := 0) (dQ (by decide +kernel)) rfl ?_
  refine j_get (own := 12) (i := 7) (ci := 12) (f := 2) (dQ (by decide +kernel)) hcls h12 (hob _) hn2 hf ?_
  refine j_iload (i := 5) (dQ (by decide +kernel)) rfl ?_
  refine j_iconst (n := 1) (dQ (by decide +kernel)) ?_
  refine j_iadd (dQ (by decide +kernel)) ?_
  refine j_iload_n (k4 := 1) (dQ (by decide +kernel)) rfl ?_
  refine j_iast (dQ (by decide +kernel)) (hself _) (i32_in (by omega) (by omega)) ?_
  rw [set2, i32_at d1]
  -- start
  refine j_aload_n (k4 := 0) (dQ (by decide +kernel)) rfl ?_
  refine j_get (own := 12) (i := 7) (ci := 12) (f := 2) (dQ (by decide +kernel)) hcls h12 (hob _) hn2 hf ?_
  refine j_iload (i := 5) (dQ (by decide +kernel)) rfl ?_
  refine j_iconst (n := 2) (dQ (by decide +kernel)) ?_
  refine j_iadd (dQ (by decide +kernel)) ?_
  refine j_iload_n (k4 := 2) (dQ (by decide +kernel)) rfl ?_
  refine j_iast (dQ (by decide +kernel)) (hself _) (i32_in (by omega) (by omega)) ?_
  rw [set2, i32_at d2]
  -- goal
  refine j_aload_n (k4 := 0) (dQ (by decide +kernel)) rfl ?_
  refine j_get (own := 12) (i := 7) (ci := 12) (f := 2) (dQ (by decide +kernel)) hcls h12 (hob _) hn2 hf ?_
  refine j_iload (i := 5) (dQ (by decide +kernel)) rfl ?_
  refine j_iconst (n := 3) (dQ (by decide +kernel)) ?_
  refine j_iadd (dQ (by decide +kernel)) ?_
  refine j_iload_n (k4 := 3) (dQ (by decide +kernel)) rfl ?_
  refine j_iast (dQ (by decide +kernel)) (hself _) (i32_in (by omega) (by omega)) ?_
  rw [set2, i32_at d3]
  -- name
  refine j_aload_n (k4 := 0) (dQ (by decide +kernel)) rfl ?_
  refine j_get (own := 12) (i := 7) (ci := 12) (f := 2) (dQ (by decide +kernel)) hcls h12 (hob _) hn2 hf ?_
  refine j_iload (i := 5) (dQ (by decide +kernel)) rfl ?_
  refine j_iconst (n := 4) (dQ (by decide +kernel)) ?_
  refine j_iadd (dQ (by decide +kernel)) ?_
  refine j_iload (i := 4) (dQ (by decide +kernel)) rfl ?_
  refine j_iast (dQ (by decide +kernel)) (hself _) (i32_in (by omega) (by omega)) ?_
  rw [set2, i32_at d4]
  -- one more
  refine j_aload_n (k4 := 0) (dQ (by decide +kernel)) rfl ?_
  refine j_get (own := 12) (i := 7) (ci := 12) (f := 2) (dQ (by decide +kernel)) hcls h12 (hob _) hn2 hf ?_
  refine j_iconst (n := 1) (dQ (by decide +kernel)) ?_
  refine j_dup2 (dQ (by decide +kernel)) rfl rfl ?_
  refine j_iald (dQ (by decide +kernel)) (hself _) (i32_in (by decide) (by decide)) ?_
  refine j_iconst (n := 1) (dQ (by decide +kernel)) ?_
  refine j_iadd (dQ (by decide +kernel)) ?_
  refine j_iast (dQ (by decide +kernel)) (hself _) (i32_in (by decide) (by decide)) ?_
  rw [set2]
  refine j_ret (v := none) ⟨by decide +kernel, by decide +kernel⟩ ?_ rfl
  have e5 : upd (upd (upd (upd (upd f (624 + 5 * t) (f (Int32.ofInt 0).toNatClampNeg)) (624 + 5 * t + 1) kind) (624 + 5 * t + 2) start) (624 + 5 * t + 3) goal) (624 + 5 * t + 4) name (Int32.ofInt 1).toNatClampNeg = f 1 := by
    rw [show (Int32.ofInt 1).toNatClampNeg = 1 by decide]
    simp only [upd]
    rw [if_neg (by omega), if_neg (by omega), if_neg (by omega), if_neg (by omega), if_neg (by omega)]
  rw [e5]
  exact k
end NT
end
section
/-! WHAT THE REFERENCE'S HEAP KEEPS BESIDES ITS TYPES: the log's rows, the rules' code; in the images too -/
def ROWs : List aSeg := match tyAt TTs 1 1 with
  | some (.inl q) => q.2.2
  | _ => []
def mTs : List aT := match tyAt TTs 1 0 with
  | some (.inr q) => q.2
  | _ => []
theorem ty_m0 : tyAt TTs 1 0 = some (.inr (12, mTs)) := rfl
theorem ty_m1 : tyAt TTs 1 1 = some (.inl (0, 5270, ROWs)) := rfl
theorem ty_m2 : tyAt TTs 1 2 = some (.inl (0, 10540, [(0, 10540, 1, [(-2147483648, 2147483647)])])) := rfl
theorem ty_m3 : tyAt TTs 1 3 = some (.inl (1, 2, [(0, 2, 1, [(0, 1)])])) := rfl
def lgOK (f : Nat → Int32) (o : Nat) : Prop := ∀ k, k < 100 →
  (((f (o + 624 + 5 * k + 1)).toInt = 0 ∨ (f (o + 624 + 5 * k + 1)).toInt = 2 ∨ (f (o + 624 + 5 * k + 1)).toInt = 6) → 0 ≤ (f (o + 624 + 5 * k + 3)).toInt) ∧
  (¬ ((f (o + 624 + 5 * k + 1)).toInt = 0 ∨ (f (o + 624 + 5 * k + 1)).toInt = 2 ∨ (f (o + 624 + 5 * k + 1)).toInt = 6) → 0 ≤ (f (o + 624 + 5 * k + 2)).toInt)
/-- so many of the code's words from p on, with n numbers on the pile -/
def dep (f : Nat → Int32) (a : Nat) : Nat → Nat → Nat → Bool
  | 0, _, _ => true
  | c + 1, p, n => bif decide ((f (a + 130 + 2 * p)).toInt = 10) then Nat.ble 1 n && dep f a c (p + 1) n
    else bif decide ((f (a + 130 + 2 * p)).toInt = 11) || decide ((f (a + 130 + 2 * p)).toInt = 12) then Nat.ble 2 n && dep f a c (p + 1) (n - 1)
    else (decide ((f (a + 130 + 2 * p)).toInt = 1) || decide ((f (a + 130 + 2 * p)).toInt = 2) || (decide ((f (a + 130 + 2 * p)).toInt = 3) && decide ((f (a + 130 + 2 * p + 1)).toInt ≤ 11))) && dep f a c (p + 1) (n + 1)
def cdOd (f : Nat → Int32) (o : Nat) : Prop := ∀ t, t < 2 → ∀ k : Nat, k < 16 → (k : Int) < (f (o + 1130 + 930 * t)).toInt → ∀ s e : Nat, (f (o + 1130 + 930 * t + 1 + 8 * k + 5)).toInt = (s : Int) → (f (o + 1130 + 930 * t + 1 + 8 * k + 6)).toInt = (e : Int) → e ≤ 400 → dep f (o + 1130 + 930 * t) (e - s) s 0 = true
/-- a step's goal is a berth -/
def goOK (f : Nat → Int32) (o : Nat) : Prop := ∀ t, t < 2 → ∀ k : Nat, k < 16 → (f (o + 1130 + 930 * t + 1 + 8 * k)).toInt = 0 → 0 ≤ (f (o + 1130 + 930 * t + 1 + 8 * k + 2)).toInt ∧ (f (o + 1130 + 930 * t + 1 + 8 * k + 2)).toInt ≤ 11
def cdOK (f : Nat → Int32) (o : Nat) : Prop := cdOd f o ∧ goOK f o
/-- n: what the counters of the images are at most -/
def EIm (n : Int) (bk : aB) (h : jH) : Prop := ∀ (b : Nat) (f F K : Nat → Int32), bk 1 = some b → h[b + 1]? = some (.inl (0, 5270, f)) → h[b + 2]? = some (.inl (0, 10540, F)) → h[b + 3]? = some (.inl (1, 2, K)) →
  (lgOK f 0 ∧ cdOK f 0) ∧ ∀ k, k < 2 → ¬ K k = 0 → lgOK F (5270 * k) ∧ cdOK F (5270 * k) ∧ (∀ i, i < 5270 → sgOK ROWs i (F (5270 * k + i)).toInt) ∧ (F (5270 * k + 1)).toInt ≤ n ∧ (F (5270 * k + 5066)).toInt ≤ n
theorem lgOK.cg {f f' : Nat → Int32} {o : Nat} (h : ∀ i, o + 624 ≤ i → i ≤ o + 1123 → f' i = f i) (hl : lgOK f o) : lgOK f' o := by
  intro k hk
  rw [h (o + 624 + 5 * k + 1) (by omega) (by omega), h (o + 624 + 5 * k + 2) (by omega) (by omega), h (o + 624 + 5 * k + 3) (by omega) (by omega)]
  exact hl k hk
theorem dep_cg {f f' : Nat → Int32} {a : Nat} (h : ∀ i, a ≤ i → i ≤ a + 929 → f' i = f i) : ∀ (c p n : Nat), (c = 0 ∨ p + c ≤ 400) → dep f' a c p n = dep f a c p n := by
  intro c
  induction c with
  | zero => intro p n _; rfl
  | succ c ih =>
    intro p n hp
    rw [dep, dep, h (a + 130 + 2 * p) (by omega) (by omega), h (a + 130 + 2 * p + 1) (by omega) (by omega), ih (p + 1) n (by omega), ih (p + 1) (n - 1) (by omega), ih (p + 1) (n + 1) (by omega)]
theorem cdOd.cg {f f' : Nat → Int32} {o : Nat} (h : ∀ i, o + 1130 ≤ i → i ≤ o + 2989 → f' i = f i) (hl : cdOd f o) : cdOd f' o := by
  intro t ht k hk hn s e hs he h4
  rw [h _ (by omega) (by omega)] at hn hs he
  rw [dep_cg (f := f) (fun i h1 h2 => h i (by omega) (by omega)) _ _ _ (by omega)]
  exact hl t ht k hk hn s e hs he h4
theorem cdOK.cg {f f' : Nat → Int32} {o : Nat} (h : ∀ i, o + 1130 ≤ i → i ≤ o + 2989 → f' i = f i) (hl : cdOK f o) : cdOK f' o :=
  ⟨hl.1.cg h, fun t ht k hk h0 => by
    rw [h _ (by omega) (by omega)] at h0 ⊢
    exact hl.2 t ht k hk h0⟩
theorem ap_not {W P : List aR} {B o i : Nat} {lo hi : Int} (h : apW W P = true) (hP : (B, o, lo, hi) ∈ P) (h1 : lo ≤ i) (h2 : (i : Int) ≤ hi) : ¬ inW W B o i := by
  intro ⟨w, hw, e1, e2, e3, e4⟩
  have h3 := List.all_eq_true.mp (List.all_eq_true.mp h w hw) _ hP
  simp only [Bool.not_eq_true', Bool.and_eq_false_iff, decide_eq_false_iff_not] at h3
  rcases h3 with ((h3 | h3) | h3) | h3
  · rw [e1, Nat.beq_refl] at h3; cases h3
  · rw [e2, Nat.beq_refl] at h3; cases h3
  · omega
  · omega
section EM
variable {g : jG} {bk : aB} {h h' : jH}
/-- an array of the reference -/
theorem m_arr {b o ty n : Nat} {sg : List aSeg} (hT : HT TTs g bk h) (hb : bk 1 = some b) (ht : tyAt TTs 1 o = some (.inl (ty, n, sg))) : ∃ f, h[b + o]? = some (.inl (ty, n, f)) ∧ ∀ i, i < n → sgOK sg i (f i).toInt := by
  obtain ⟨c, h1, f, rfl, h2⟩ := hT 1 b o _ hb ht
  exact ⟨f, h1, h2⟩
theorem m_obj {b : Nat} (hT : HT TTs g bk h) (hb : bk 1 = some b) : ∃ fs, h[b]? = some (.inr (12, fs)) ∧ ∀ (k : Nat) (t : aT), mTs[k]? = some t → ∃ v, fs[k]? = some v ∧ ftOK g bk t v := by
  obtain ⟨c, h1, fs, rfl, h2, h3⟩ := hT 1 b 0 _ hb ty_m0
  exact ⟨fs, h1, h3⟩
theorem un_arr {W : List aR} {b o ty n : Nat} {f f' : Nat → Int32} (hU : UN TTs W bk h h') (hb : bk 1 = some b) (ho : o < tyLen TTs 1) (h1 : h[b + o]? = some (.inl (ty, n, f))) (h2 : h'[b + o]? = some (.inl (ty, n, f'))) : ∀ i, ¬ inW W 1 o i → f' i = f i := by
  obtain ⟨c', g1, g2⟩ := hU.2 1 b o _ hb ho h1
  cases h2.symm.trans g1
  exact g2.2.2
theorem EIm_mono {n n' : Int} (hn : n ≤ n') (hE : EIm n bk h) : EIm n' bk h := by
  intro b f F K h1 h2 h3 h4
  obtain ⟨e1, e2⟩ := hE b f F K h1 h2 h3 h4
  refine ⟨e1, fun k hk hK => ?_⟩
  obtain ⟨x1, x2, x3, x4, x5⟩ := e2 k hk hK
  exact ⟨x1, x2, x3, by omega, by omega⟩
theorem EIm_ok {n : Int} : eiOK TTs g (EIm n) Pm := by
  intro bk h h' Wk hap hU hlen hT hT' hE b f' F' K' hb h1 h2 h3
  obtain ⟨f, q1, -⟩ := m_arr hT hb ty_m1
  obtain ⟨F, q2, -⟩ := m_arr hT hb ty_m2
  obtain ⟨K, q3, -⟩ := m_arr hT hb ty_m3
  have u1 := un_arr hU hb (by decide +kernel) q1 h1
  have u2 := un_arr hU hb (by decide +kernel) q2 h2
  have u3 := un_arr hU hb (by decide +kernel) q3 h3
  have p1 : ∀ i, 624 ≤ i → i ≤ 1123 → f' i = f i := fun i a1 a2 => u1 i (ap_not hap (lo := 624) (hi := 1123) (by decide +kernel) (by omega) (by omega))
  have p2 : ∀ i, 1130 ≤ i → i ≤ 2989 → f' i = f i := fun i a1 a2 => u1 i (ap_not hap (lo := 1130) (hi := 2989) (by decide +kernel) (by omega) (by omega))
  have p3 : ∀ i, i ≤ 10539 → F' i = F i := fun i a1 => u2 i (ap_not hap (lo := 0) (hi := 10539) (by decide +kernel) (by omega) (by omega))
  have p4 : ∀ i, i ≤ 1 → K' i = K i := fun i a1 => u3 i (ap_not hap (lo := 0) (hi := 1) (by decide +kernel) (by omega) (by omega))
  obtain ⟨⟨e1, e2⟩, e3⟩ := hE b f F K hb q1 q2 q3
  refine ⟨⟨e1.cg (fun i a1 a2 => p1 i (by omega) (by omega)), e2.cg (fun i a1 a2 => p2 i (by omega) (by omega))⟩, fun k hk hK => ?_⟩
  obtain ⟨x1, x2, x3, x4, x5⟩ := e3 k hk (by rw [← p4 k (by omega)]; exact hK)
  refine ⟨x1.cg (fun i a1 a2 => p3 i (by omega)), x2.cg (fun i a1 a2 => p3 i (by omega)), fun i hi => ?_, by rw [p3 _ (by omega)]; exact x4, by rw [p3 _ (by omega)]; exact x5⟩
  rw [p3 _ (by omega)]
  exact x3 i hi
end EM
end
section
/-! note keeps its contracts -/
section NK
variable {l : Launch} {g : jG}
theorem nf_at {f : Nat → Int32} {t : Nat} {kind start goal name : Int32} (ht : t < 100) : nf f t kind start goal name (624 + 5 * t) = f 0 ∧ nf f t kind start goal name (624 + 5 * t + 1) = kind ∧ nf f t kind start goal name (624 + 5 * t + 2) = start ∧ nf f t kind start goal name (624 + 5 * t + 3) = goal ∧ nf f t kind start goal name (624 + 5 * t + 4) = name ∧ nf f t kind start goal name 1 = f 1 + Int32.ofInt 1 := by
  refine ⟨?_, ?_, ?_, ?_, ?_, ?_⟩ <;> simp only [nf, upd]
  · rw [if_neg (by omega), if_neg (by omega), if_neg (by omega), if_neg (by omega), if_neg (by omega), if_pos trivial]
  · rw [if_neg (by omega), if_neg (by omega), if_neg (by omega), if_neg (by omega), if_pos trivial]
  · rw [if_neg (by omega), if_neg (by omega), if_neg (by omega), if_pos trivial]
  · rw [if_neg (by omega), if_neg (by omega), if_pos trivial]
  · rw [if_neg (by omega), if_pos trivial]
  · first | rw [if_pos trivial] | rfl
theorem nf_off {f : Nat → Int32} {t i : Nat} {kind start goal name : Int32} (h1 : ¬ i = 1) (h2 : ¬ (624 + 5 * t ≤ i ∧ i ≤ 624 + 5 * t + 4)) : nf f t kind start goal name i = f i := by
  simp only [nf, upd]
  rw [if_neg (by omega), if_neg (by omega), if_neg (by omega), if_neg (by omega), if_neg (by omega), if_neg (by omega)]
theorem ROWs_wf : sgWF ROWs = true := (tySg_ok TTs_sg ty_m1).1
/-- a place of the row that a form names -/
theorem row_at {i : Nat} {x : Int} {F : aF} {vs : List Int} {lo hi : Int} {b : Int × Int} (hb : sgS ROWs F lo hi = some b) (hF : fev vs F = some (i : Int)) (h1 : lo ≤ i) (h2 : (i : Int) ≤ hi) (hx : b.1 ≤ x ∧ x ≤ b.2) : sgOK ROWs i x := sgS_ok ROWs_wf hb hF h1 h2 hx
theorem row_log {t j : Nat} {x : Int} {b : Int × Int} (ht : t < 100) (hb : sgS ROWs ([(0, 5)], (624 + j : Nat)) (624 + j : Nat) (624 + j + 495 : Nat) = some b) (hx : b.1 ≤ x ∧ x ≤ b.2) : sgOK ROWs (624 + 5 * t + j) x :=
  row_at (vs := [(t : Int)]) hb (by show some ((5 * (t : Int) + 0) + ((624 + j : Nat) : Int)) = _; congr 1; omega) (by omega) (by omega) hx
def noteK (ka kb sa sb ga gb : Int) : aK := (245, [some (2, 0, 0, 1, 0), some (0, ka, kb, 0, 0), some (0, sa, sb, 0, 0), some (0, ga, gb, 0, 0), some (0, 0, 999, 0, 0), none], [(1, 1, 1, 0, 1073741823)], [], [(9, 0, 0, 0, 0, [])], [(1, 1, 1, 1, 1073741824)], [([(4, 1), (5, -1)], 1)], [(1, 1, 1, 1), (1, 1, 624, 1123)], 1, 0, 0)
theorem list6 {α : Type} {L : List α} (h : L.length = 6) : ∃ a0 a1 a2 a3 a4 a5, L = [a0, a1, a2, a3, a4, a5] := by
  match L, h with
  | [a0, a1, a2, a3, a4, a5], _ => exact ⟨a0, a1, a2, a3, a4, a5, rfl⟩
set_option maxRecDepth 4000 in
theorem note_ok {n ka kb sa sb ga gb : Int} (hbd : 0 ≤ ka ∧ kb ≤ 7 ∧ -1 ≤ sa ∧ sb ≤ 11 ∧ -1 ≤ ga ∧ gb ≤ 11) (hsem : ∀ k s q : Int, ka ≤ k → k ≤ kb → sa ≤ s → ga ≤ q → ((k = 0 ∨ k = 2 ∨ k = 6) → 0 ≤ q) ∧ (¬ (k = 0 ∨ k = 2 ∨ k = 6) → 0 ≤ s)) : kOK TTs g (EIm n) l (noteK ka kb sa sb ga gb) := by
  intro bk h av ev hT hD hE hb1 hl hn _ hg
  have hn5 : ev.length = 5 := hn
  obtain ⟨g1, g2, g3, g4, g5, g6, g7⟩ := hg
  have hlen : (jal 245 av).length = 6 := (jal_len hl).trans (show jmx 245 = 6 by decide +kernel)
  obtain ⟨a0, a1, a2, a3, a4, a5, hal⟩ := list6 hlen
  have l0 := g4 0 (2, 1, 0) rfl
  have l1 := g4 1 (0, 0, 0) rfl
  have l2 := g4 2 (0, 1, 0) rfl
  have l3 := g4 3 (0, 2, 0) rfl
  have l4 := g4 4 (0, 3, 0) rfl
  have hal2 : jal (noteK ka kb sa sb ga gb).1 av = [a0, a1, a2, a3, a4, a5] := hal
  rw [hal2] at l0 l1 l2 l3 l4
  obtain ⟨w0, e0, b, hb, rfl⟩ := l0
  obtain ⟨w1, e1, kind, rfl, v1⟩ := l1
  obtain ⟨w2, e2, start, rfl, v2⟩ := l2
  obtain ⟨w3, e3, goal, rfl, v3⟩ := l3
  obtain ⟨w4, e4, name, rfl, v4⟩ := l4
  have r0 := Option.some.inj e0
  have r1 := Option.some.inj e1
  have r2 := Option.some.inj e2
  have r3 := Option.some.inj e3
  have r4 := Option.some.inj e4
  clear e0 e1 e2 e3 e4
  subst r0 r1 r2 r3 r4
  have i1 := g1.2 0 (eNew ka kb none) _ rfl v1
  have i2 := g1.2 1 (eNew sa sb none) _ rfl v2
  have i3 := g1.2 2 (eNew ga gb none) _ rfl v3
  have i4 := g1.2 3 (eNew 0 999 none) _ rfl v4
  dsimp only [eNew] at i1 i2 i3 i4
  obtain ⟨z, b', c, x, y1, y2, y3, y4, y5⟩ := g6 (1, 1, fcon 1, 4) List.mem_cons_self
  have i5 := g1.2 4 (eNew 0 1073741823 none) _ rfl y5
  dsimp only [eNew] at i5
  have y2 : bk 1 = some b' := y2
  cases hb.symm.trans y2
  obtain ⟨f, hr, hty⟩ := m_arr hT hb ty_m1
  have y3 : h[b + 1]? = some c := y3
  cases hr.symm.trans y3
  have y1 : some (1 : Int) = some z := y1
  cases y1
  have y4 : (f 1).toInt = x := y4.2
  obtain ⟨fs, ho, hfs⟩ := m_obj hT hb
  obtain ⟨v, hv1, b2, hb2, hv2⟩ := hfs 2 (2, 0, 0, 1, 1) rfl
  cases hb.symm.trans hb2
  subst hv2
  refine jCal_of (show plainName (jyN 245).cls = true by decide +kernel) hl ?_
  rw [hal2]
  generalize ht : ((f 1).toInt % 100).toNat = t
  have htb : t < 100 := by omega
  have hh : (Int32.ofInt 1).toInt = 1 := by decide
  have hadd : (f 1 + Int32.ofInt 1).toInt = x + 1 := by
    have e : f 1 = Int32.ofInt x := by rw [← y4, Int32.ofInt_toInt]
    rw [e, ← Int32.ofInt_add]
    exact i32_ofInt (by omega) (by omega)
  refine note_run (b := b) (f := f) ho hv1 hr (by omega) ?_
  rw [ht]
  obtain ⟨n0, n1, n2, n3, n4, n5⟩ := nf_at (f := f) (kind := kind) (start := start) (goal := goal) (name := name) htb
  have hct : ctOK g bk (.inl (0, 5270, ROWs)) (.inl (0, 5270, nf f t kind start goal name)) := by
    refine ⟨_, rfl, fun i hi => ?_⟩
    by_cases c1 : i = 1
    · subst c1
      rw [n5, hadd]
      exact row_at (vs := []) (F := ([], 1)) (lo := 1) (hi := 1) (b := (0, 1073741824)) (by decide +kernel) rfl (by omega) (by omega) (by dsimp only; omega)
    · by_cases c2 : 624 + 5 * t ≤ i ∧ i ≤ 624 + 5 * t + 4
      · have hm := hty 0 (by omega) (0, 1, 1, [(0, 9999)]) (by decide +kernel) (by decide) (by decide) (0, 9999) rfl
        dsimp only at hm
        have c3 : i = 624 + 5 * t ∨ i = 624 + 5 * t + 1 ∨ i = 624 + 5 * t + 2 ∨ i = 624 + 5 * t + 3 ∨ i = 624 + 5 * t + 4 := by omega
        rcases c3 with rfl | rfl | rfl | rfl | rfl
        · rw [n0]; exact row_log (j := 0) (b := (0, 9999)) htb (by decide +kernel) hm
        · rw [n1]; exact row_log (j := 1) (b := (0, 7)) htb (by decide +kernel) (by dsimp only; omega)
        · rw [n2]; exact row_log (j := 2) (b := (-1, 11)) htb (by decide +kernel) (by dsimp only; omega)
        · rw [n3]; exact row_log (j := 3) (b := (-1, 11)) htb (by decide +kernel) (by dsimp only; omega)
        · rw [n4]; exact row_log (j := 4) (b := (0, 999)) htb (by decide +kernel) (by dsimp only; omega)
      · rw [nf_off c1 c2]
        exact hty i hi
  have hla : b + 1 < h.length := (List.getElem?_eq_some_iff.mp hr).1
  refine ⟨bk, [x + 1], ⟨hT.set hD hb ty_m1 hct, hD, ?_, UN.set hD hb (by decide +kernel) hr ⟨rfl, rfl, fun i hi => ?_⟩, fun B b hB => hB, hb1⟩, ⟨rfl, fun j q z hq hz => ?_⟩, (9, 0, 0, 0, 0, []), List.mem_cons_self, rfl, fun F hF => ?_⟩
  · -- the log
    intro b3 f' F K q1 q2 q3 q4
    cases hb.symm.trans q1
    rw [List.getElem?_set_self hla] at q2
    cases q2
    rw [List.getElem?_set_ne (by omega)] at q3 q4
    obtain ⟨⟨o1, o2⟩, o3⟩ := hE b f F K hb hr q3 q4
    refine ⟨⟨fun k hk => ?_, o2.cg (fun i a1 a2 => nf_off (by omega) (by omega))⟩, o3⟩
    by_cases hkt : k = t
    · subst hkt
      rw [show 0 + 624 + 5 * k + 1 = 624 + 5 * k + 1 by omega, show 0 + 624 + 5 * k + 2 = 624 + 5 * k + 2 by omega, show 0 + 624 + 5 * k + 3 = 624 + 5 * k + 3 by omega, n1, n2, n3]
      exact hsem _ _ _ i1.1 i1.2 i2.1 i3.1
    · rw [nf_off (i := 0 + 624 + 5 * k + 1) (by omega) (by omega), nf_off (i := 0 + 624 + 5 * k + 2) (by omega) (by omega), nf_off (i := 0 + 624 + 5 * k + 3) (by omega) (by omega)]
      exact o1 k hk
  · refine nf_off (fun e => hi ?_) (fun e => hi ?_)
    · subst e
      exact ⟨(1, 1, 1, 1), List.mem_cons_self, rfl, rfl, by decide, by decide⟩
    · exact ⟨(1, 1, 624, 1123), List.mem_cons_of_mem _ List.mem_cons_self, rfl, rfl, by show (624 : Int) ≤ i; omega, by show (i : Int) ≤ 1123; omega⟩
  · match j, hq, hz with
    | 0, hq, hz =>
      cases hq
      cases hz
      refine ⟨by dsimp only; omega, b, _, hb, List.getElem?_set_self hla, by decide, ?_⟩
      show (nf f t kind start goal name 1).toInt = x + 1
      rw [n5, hadd]
    | j + 1, hq, hz => cases hq
  · have hF2 : F = ([(4, 1), (5, -1)], 1) := List.mem_singleton.mp hF
    subst hF2
    refine ⟨0, ?_, by omega⟩
    have z4 : (ev ++ [x + 1])[4]? = some x := getE_app y5
    have z5 : (ev ++ [x + 1])[5]? = some (x + 1) := by rw [List.getElem?_append_right (by omega), hn5]; rfl
    rw [fev_of (fevl_cons (q := (4, 1)) z4 (fevl_cons (q := (5, -1)) z5 (show fevl _ [] = some 0 from rfl)))]
    congr 1
    dsimp only
    omega
end NK
end
section
/-! reached: its beginning by hand, the rest checked -/
section RC
variable {l : Launch} {g : jG} {d kc ks : Nat} {Q : Option Value → jH → Prop} {h : jH}
def kd3 (f : Nat → Int32) (k : Nat) : Prop := (f (k + 1)).toInt = 0 ∨ (f (k + 1)).toInt = 2 ∨ (f (k + 1)).toInt = 6
theorem i32_eqv {x : Int32} {z : Int} (hz : -2147483648 ≤ z ∧ z ≤ 2147483647) : x = Int32.ofInt z ↔ x.toInt = z := by
  constructor
  · intro h; rw [h]; exact i32_ofInt hz.1 hz.2
  · intro h; rw [← h, Int32.ofInt_toInt]
theorem coming_run {b k : Nat} {fs : List Value} {f : Nat → Int32} {kk : Int32} (hkk : kk.toInt = (k : Int)) (hk : k ≤ 5000) (ho : h[b]? = some (.inr (12, fs))) (hf : fs[2]? = some (.ref (g.2.2 + (b + 1)))) (hr : h[b + 1]? = some (.inl (0, 5270, f))) :
    jCal l g 297 d [.ref (g.2.2 + b), .int kk] h kc ks (fun v h' => h' = h ∧ ((v = some (.int 1) ∧ kd3 f k) ∨ (v = some (.int 0) ∧ ¬ kd3 f k))) := by
  refine jCal_of (by decide +kernel) (show 2 ≤ jmx 297 by decide +kernel) ?_
  show J l g 297 d 0 [some (.ref (g.2.2 + b)), some (.int kk)] [] h kc ks _
  have hn2 : ∀ r, jcl[12]? = some r → 2 < r.2.2 := fun r hr => by cases hr; decide +kernel
  have hcls : jcN 12 = (jyN 297).cls := by decide +kernel
  have h12 : (12, 7, 12, 2) ∈ jeF := by decide +kernel
  have d1 : (kk + Int32.ofInt 1).toInt = ((k + 1 : Nat) : Int) := by
    rw [i32_addn hkk (by omega) (by omega)]
    omega
  have c1 := i32_at d1
  have hb := Int32.toInt_lt (f (k + 1))
  have hyes : kd3 f k → J l g 297 d 36 [some (.ref (g.2.2 + b)), some (.int kk)] [] h kc ks (fun v h' => h' = h ∧ ((v = some (.int 1) ∧ kd3 f k) ∨ (v = some (.int 0) ∧ ¬ kd3 f k))) := fun hy => by
    refine j_iconst (n := 1) (dQ (by decide +kernel)) ?_
    refine j_goto (off := 4) (tgt := 41) (dQ (by decide +kernel)) (by decide) ?_
    exact j_ret (v := some (.int 1)) ⟨by decide +kernel, Or.inr (Or.inl ⟨by decide +kernel, Or.inr rfl⟩)⟩ ⟨rfl, Or.inl ⟨rfl, hy⟩⟩ rfl
  refine j_aload_n (k4 := 0) (dQ (by decide +kernel)) rfl ?_
  refine j_get (own := 12) (i := 7) (ci := 12) (f := 2) (dQ (by decide +kernel)) hcls h12 ho hn2 hf ?_
  refine j_iload_n (k4 := 1) (dQ (by decide +kernel)) rfl ?_
  refine j_iconst (n := 1) (dQ (by decide +kernel)) ?_
  refine j_iadd (dQ (by decide +kernel)) ?_
  refine j_iald (dQ (by decide +kernel)) hr (i32_in (by omega) (by omega)) ?_
  rw [c1]
  refine j_if_eq (off := 28) (tgt := 36) (dQ (by decide +kernel)) (by decide) (fun e => hyes (Or.inl (by rw [e]; rfl))) (fun e0 => ?_)
  refine j_aload_n (k4 := 0) (dQ (by decide +kernel)) rfl ?_
  refine j_get (own := 12) (i := 7) (ci := 12) (f := 2) (dQ (by decide +kernel)) hcls h12 ho hn2 hf ?_
  refine j_iload_n (k4 := 1) (dQ (by decide +kernel)) rfl ?_
  refine j_iconst (n := 1) (dQ (by decide +kernel)) ?_
  refine j_iadd (dQ (by decide +kernel)) ?_
  refine j_iald (dQ (by decide +kernel)) hr (i32_in (by omega) (by omega)) ?_
  rw [c1]
  refine j_iconst (n := 2) (dQ (by decide +kernel)) ?_
  refine j_icmp_eq (off := 16) (tgt := 36) (dQ (by decide +kernel)) (by decide) (fun e => hyes (Or.inr (Or.inl (by rw [e]; rfl)))) (fun e2 => ?_)
  refine j_aload_n (k4 := 0) (dQ (by decide +kernel)) rfl ?_
  refine j_get (own := 12) (i := 7) (ci := 12) (f := 2) (dQ (by decide +kernel)) hcls h12 ho hn2 hf ?_
  refine j_iload_n (k4 := 1) (dQ (by decide +kernel)) rfl ?_
  refine j_iconst (n := 1) (dQ (by decide +kernel)) ?_
  refine j_iadd (dQ (by decide +kernel)) ?_
  refine j_iald (dQ (by decide +kernel)) hr (i32_in (by omega) (by omega)) ?_
  rw [c1]
  refine j_bipush (n := 6) (dQ (by decide +kernel)) ?_
  refine j_icmp_ne (off := 7) (tgt := 40) (dQ (by decide +kernel)) (by decide) (fun e6 => ?_) (fun e6 => ?_)
  · refine j_iconst (n := 0) (dQ (by decide +kernel)) ?_
    refine j_ret (v := some (.int 0)) ⟨by decide +kernel, Or.inr (Or.inl ⟨by decide +kernel, Or.inl rfl⟩)⟩ ⟨rfl, Or.inr ⟨rfl, ?_⟩⟩ rfl
    rintro (q | q | q)
    · exact e0 (((i32_eqv (z := 0) (by omega)).mpr q).trans rfl)
    · exact e2 ((i32_eqv (z := 2) (by omega)).mpr q)
    · exact e6 (((i32_eqv (z := 6) (by omega)).mpr q).trans (by decide))
  · refine hyes (Or.inr (Or.inr ?_))
    rw [Classical.not_not.mp e6]
    decide
def rchK : aK := (302, [some (2, 0, 0, 1, 0), some (0, 624, 1119, 5, 0), some (0, 0, 9999, 0, 0), none, none, none], [], [], [(0, -2147483648, 2147483647, 0, 0, [])], [], [], [(1, 21, 0, 143)], 3, 0, 0)
def rchC : List aCu := [(28, [some (2, 0, 0, 1, 0), some (0, 624, 1119, 0, 0), some (0, 0, 9999, 0, 0), some (0, 0, 11, 0, 0), none, none], [], [], ([], 13), []), (38, [some (2, 0, 0, 1, 0), some (0, 624, 1119, 0, 0), some (0, 0, 9999, 0, 0), some (0, 0, 11, 0, 0), some (0, -2147483648, 2147483647, 0, 0), some (0, 0, 12, 0, 0)], [], [], ([(6, -1)], 12), [])]
theorem rch_chk : rchC.all (fun C => Nat.beq C.2.1.length (jmx 302) && chk (TTs, KTx, KIx, [(1, 21, 0, 143)], Pm, 302, 12, 3, rchN) rchK rchC [] (some C.2.2.2.2.1) 400 true C.1 (spState (kEnv rchK) C.2.1 C.2.2.1 C.2.2.2.1 C.2.2.2.2.2) 0 0) = true := by decide +kernel
theorem row_col {f : Nat → Int32} {t j : Nat} {q : Int × Int} (hty : ∀ i, i < 5270 → sgOK ROWs i (f i).toInt) (ht : t < 100) (hj : j < 5) (hq : [((0 : Int), (9999 : Int)), (0, 7), (-1, 11), (-1, 11), (0, 999)][j]? = some q) : q.1 ≤ (f (624 + 5 * t + j)).toInt ∧ (f (624 + 5 * t + j)).toInt ≤ q.2 :=
  hty (624 + 5 * t + j) (by omega) (624, 500, 5, [(0, 9999), (0, 7), (-1, 11), (-1, 11), (0, 999)]) (by decide +kernel) (by show 624 ≤ _; omega) (by show _ < 624 + 500; omega) q (by show [((0 : Int), (9999 : Int)), (0, 7), (-1, 11), (-1, 11), (0, 999)][(624 + 5 * t + j - 624) % 5]? = some q; rw [show (624 + 5 * t + j - 624) % 5 = j by omega]; exact hq)
theorem reached_ok {n : Int} (hlow : ∀ (k : Nat) (K : aK), KTx[k]? = some K → k < rchN → kOK TTs g (EIm n) l K) : kOK TTs g (EIm n) l rchK := by
  intro bk h av ev hT hD hE hb1 hl hn hst hg
  have hn2 : ev.length = 2 := hn
  obtain ⟨g1, g2, g3, g4, g5, g6, g7⟩ := hg
  have hlen : (jal 302 av).length = 6 := (jal_len hl).trans (show jmx 302 = 6 by decide +kernel)
  obtain ⟨a0, a1, a2, a3, a4, a5, hal⟩ := list6 hlen
  have l0 := g4 0 (2, 1, 0) rfl
  have l1 := g4 1 (0, 0, 0) rfl
  have l2 := g4 2 (0, 1, 0) rfl
  have hal2 : jal rchK.1 av = [a0, a1, a2, a3, a4, a5] := hal
  rw [hal2] at l0 l1 l2
  obtain ⟨w0, e0, b, hb, rfl⟩ := l0
  obtain ⟨w1, e1, kk, rfl, v1⟩ := l1
  obtain ⟨w2, e2, mi, rfl, v2⟩ := l2
  have r0 := Option.some.inj e0
  have r1 := Option.some.inj e1
  have r2 := Option.some.inj e2
  clear e0 e1 e2
  subst r0 r1 r2
  have i1 := g1.2 0 (eNew 624 1119 none) _ rfl v1
  have i2 := g1.2 1 (eNew 0 9999 none) _ rfl v2
  dsimp only [eNew] at i1 i2
  have hs5 : (kk.toInt - 624) % 5 = 0 := hst (0, 624, 5) (by decide +kernel) _ v1
  obtain ⟨t, ht⟩ : ∃ t : Nat, kk.toInt = ((624 + 5 * t : Nat) : Int) := ⟨((kk.toInt - 624) / 5).toNat, by omega⟩
  have htb : t < 100 := by omega
  have hb : bk 1 = some b := hb
  obtain ⟨f, hr, hty⟩ := m_arr hT hb ty_m1
  obtain ⟨F, hrF, -⟩ := m_arr hT hb ty_m2
  obtain ⟨K, hrK, -⟩ := m_arr hT hb ty_m3
  obtain ⟨fs, ho, hfs⟩ := m_obj hT hb
  obtain ⟨v, hv1, b2, hb2, hv2⟩ := hfs 2 (2, 0, 0, 1, 1) rfl
  have hb2 : bk 1 = some b2 := hb2
  cases hb.symm.trans hb2
  subst hv2
  have hlg := (hE b f F K hb hr hrF hrK).1.1 t htb
  rw [show 0 + 624 + 5 * t + 1 = 624 + 5 * t + 1 by omega, show 0 + 624 + 5 * t + 2 = 624 + 5 * t + 2 by omega, show 0 + 624 + 5 * t + 3 = 624 + 5 * t + 3 by omega] at hlg
  have b2 := row_col (q := (-1, 11)) hty htb (j := 2) (by omega) rfl
  have b3 := row_col (q := (-1, 11)) hty htb (j := 3) (by omega) rfl
  refine jCal_of (show plainName (jyN 302).cls = true by decide +kernel) hl ?_
  rw [hal2]
  have hn0 : ∀ r, jcl[12]? = some r → 2 < r.2.2 := fun r hr => by cases hr; decide +kernel
  have hcls : jcN 12 = (jyN 302).cls := by decide +kernel
  have h12 : (12, 7, 12, 2) ∈ jeF := by decide +kernel
  have hM : mOK TTs g (EIm n) Pm KTx l rchK.1 12 rchN := ⟨TTs_cl, TTs_sg, EIm_ok, hcls, hlow⟩
  show J l g 302 3 0 [some (.ref (g.2.2 + b)), some (.int kk), some (.int mi), a3, a4, a5] [] h 0 0 (kPost TTs g (EIm n) rchK bk h ev)
  have h27 : ∀ fr : Int32, 0 ≤ fr.toInt → fr.toInt ≤ 11 → J l g 302 3 27 [some (.ref (g.2.2 + b)), some (.int kk), some (.int mi), a3, a4, a5] [.int fr] h 0 0 (kPost TTs g (EIm n) rchK bk h ev) := by
    intro fr f1 f2
    refine j_istore_n (k4 := 3) (dQ (by decide +kernel)) (by decide +kernel) ?_
    have hcut := cuts_ok (l := l) (own := 12) (n := rchN) (fuel := 400) (sp := []) (bk0 := bk) (h0 := h) hM g1 hn rch_chk _ List.mem_cons_self 13 (by decide)
    refine hcut (ev ++ [kk.toInt] ++ [mi.toInt] ++ [fr.toInt]) bk _ h ⟨⟨?_, eFm_plain (plain_app (plain_app (plain_app (spEnv_plain _) clEnv_plain) (spEnv_plain _)) clEnv_plain), fun F hF => absurd hF List.not_mem_nil, ?_, trivial, fun q hq => absurd hq List.not_mem_nil, fun B hB => absurd hB List.not_mem_nil⟩, ⟨hT, hD, hE, UN.rf, fun _ _ q => q, hb1⟩, (show (6 : Nat) = jmx 302 by decide +kernel), fun i z hz => getE_app (getE_app (getE_app hz))⟩ rfl
    · exact ((g1.push (e := eNew 624 1119 none) (z := kk.toInt) i1).push (e := eNew 0 9999 none) (z := mi.toInt) i2).push (e := eNew 0 11 none) (z := fr.toInt) ⟨f1, f2⟩
    · have z2 : (ev ++ [kk.toInt] ++ [mi.toInt] ++ [fr.toInt])[2]? = some kk.toInt := getE_app (getE_app (by rw [List.getElem?_append_right (by omega), hn2]; rfl))
      have z3 : (ev ++ [kk.toInt] ++ [mi.toInt] ++ [fr.toInt])[3]? = some mi.toInt := getE_app (by rw [List.getElem?_append_right (by simp; omega)]; simp [hn2])
      have z4 : (ev ++ [kk.toInt] ++ [mi.toInt] ++ [fr.toInt])[4]? = some fr.toInt := by rw [List.getElem?_append_right (by simp; omega)]; simp [hn2]
      intro i v hv
      match i, hv with
      | 0, hv => cases hv; exact ⟨_, rfl, b, hb, rfl⟩
      | 1, hv => cases hv; exact ⟨_, rfl, kk, rfl, z2⟩
      | 2, hv => cases hv; exact ⟨_, rfl, mi, rfl, z3⟩
      | 3, hv => cases hv; exact ⟨_, rfl, fr, rfl, z4⟩
      | 4, hv => cases hv
      | 5, hv => cases hv
      | n + 6, hv => cases hv
  refine j_aload_n (k4 := 0) (dQ (by decide +kernel)) rfl ?_
  refine j_iload_n (k4 := 1) (dQ (by decide +kernel)) rfl ?_
  show J l g 302 3 2 _ (([.int kk] : List Value).reverse ++ .ref (g.2.2 + b) :: []) h (0 + 0) (0 + 0) _
  refine j_cV (own := 12) (i := 373) (y2 := 297) (d2 := 1) (dQ (by decide +kernel)) hcls (by decide +kernel) (by decide) (by decide +kernel) (show 1 = jnp 297 by decide +kernel) (by decide) (by decide) ho (fun r hr => by cases hr; decide +kernel) (coming_run ht (by omega) ho hv1 hr) (fun v h' hq => ?_)
  obtain ⟨rfl, hq⟩ := hq
  have d2 : (kk + Int32.ofInt 2).toInt = ((624 + 5 * t + 2 : Nat) : Int) := by
    rw [i32_addn ht (by omega) (by omega)]
    omega
  have d3 : (kk + Int32.ofInt 3).toInt = ((624 + 5 * t + 3 : Nat) : Int) := by
    rw [i32_addn ht (by omega) (by omega)]
    omega
  rcases hq with ⟨rfl, hy⟩ | ⟨rfl, hy⟩
  · show J l g 302 3 5 _ [.int 1] h' 0 0 _
    refine j_if_eq (off := 14) (tgt := 19) (dQ (by decide +kernel)) (by decide) (fun e => absurd e (by decide)) (fun _ => ?_)
    refine j_aload_n (k4 := 0) (dQ (by decide +kernel)) rfl ?_
    refine j_get (own := 12) (i := 7) (ci := 12) (f := 2) (dQ (by decide +kernel)) hcls h12 ho hn0 hv1 ?_
    refine j_iload_n (k4 := 1) (dQ (by decide +kernel)) rfl ?_
    refine j_iconst (n := 3) (dQ (by decide +kernel)) ?_
    refine j_iadd (dQ (by decide +kernel)) ?_
    refine j_iald (dQ (by decide +kernel)) hr (i32_in (by omega) (by omega)) ?_
    rw [i32_at d3]
    refine j_goto (off := 11) (tgt := 27) (dQ (by decide +kernel)) (by decide) ?_
    exact h27 _ (hlg.1 hy) b3.2
  · show J l g 302 3 5 _ [.int 0] h' 0 0 _
    refine j_if_eq (off := 14) (tgt := 19) (dQ (by decide +kernel)) (by decide) (fun _ => ?_) (fun e => absurd rfl e)
    refine j_aload_n (k4 := 0) (dQ (by decide +kernel)) rfl ?_
    refine j_get (own := 12) (i := 7) (ci := 12) (f := 2) (dQ (by decide +kernel)) hcls h12 ho hn0 hv1 ?_
    refine j_iload_n (k4 := 1) (dQ (by decide +kernel)) rfl ?_
    refine j_iconst (n := 2) (dQ (by decide +kernel)) ?_
    refine j_iadd (dQ (by decide +kernel)) ?_
    refine j_iald (dQ (by decide +kernel)) hr (i32_in (by omega) (by omega)) ?_
    rw [i32_at d2]
    exact h27 _ (hlg.2 hy) b2.2
end RC
end
