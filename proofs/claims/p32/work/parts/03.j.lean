/-! THE J LAYER: a method's walk over a heap that is a list of cells. A cell: (type, length, contents) of an array of ints (type 0) or booleans (type 1), or (class, fields). -/
abbrev jC : Type := (Nat × Nat × (Nat → Int32)) ⊕ (Nat × List Value)
abbrev jH : Type := List jC
/-- ((classes' numbers, slots), array classes by type, the address of the heap's first cell) -/
abbrev jG : Type := va_G × (Nat → ClassId) × Nat
def jat (g : jG) (a : Nat) (c : jC) (H : Heap) : Prop := match c with
  | .inl q => H[a]? = some (vp_cell (g.2.1 q.1) (q.2.1, .inl q.2.2))
  | .inr o => ∃ r : vw_C, jcl[o.1]? = some r ∧ t_OB a (g.1.1 o.1) r.2.2 (g.1.2 o.1) H (vp_V o.2)
def jhr (g : jG) (h : jH) (H : Heap) : Prop := H.size = g.2.2 + h.length ∧ ∀ (k : Nat) (c : jC), h[k]? = some c → jat g (g.2.2 + k) c H
abbrev jtys (g : jG) : List (ClassId × FieldType) := [(g.2.1 0, .int), (g.2.1 1, .boolean)]
/-! the String constants of the parser: places in its pool, texts, lengths, bytes; their addresses stand in g's second component behind the array classes -/
def jsx : List Nat := [77, 83, 85, 87, 89, 91, 93, 98, 100, 102, 104, 106, 108]
def jsT : List String := ["step", "to", "clear", "at", "drop", "pick", "if", "or", "and", "not", "track", "signal", "full"]
def jsl : List Nat := [4, 2, 5, 2, 4, 4, 2, 2, 3, 3, 5, 6, 4]
def jsb : List (List Int32) := [[115, 116, 101, 112], [116, 111], [99, 108, 101, 97, 114], [97, 116], [100, 114, 111, 112], [112, 105, 99, 107], [105, 102], [111, 114], [97, 110, 100], [110, 111, 116], [116, 114, 97, 99, 107], [115, 105, 103, 110, 97, 108], [102, 117, 108, 108]]
def jAK (g : jG) (i : Nat) : Nat := g.2.1 (2 + i)
def jAV (g : jG) (i : Nat) : Nat := g.2.1 (32 + i)
/-- the law's script: its cell, its length, its ints, in g too -/
def jsN (g : jG) : Nat := g.2.1 81
def jsX (g : jG) (i : Nat) : Int32 := Int32.ofNat (g.2.1 (100 + i))
def jScr (g : jG) (U : State) : Prop := va_X (g.2.1 80) (jsN g) (jsX g) U U.heap ∧ g.2.1 80 < g.2.2
def jSg (g : jG) (U : State) : Prop := vk_S 13 jsl jsb (jAK g) (jAV g) (fun q => g.2.2 ≤ q) U U.heap ∧ (∀ i : Nat, i < 13 → vk_R "TrainDescriber$Parser" (jsx.getD i 0) (jsT.getD i "") (jAK g i) U) ∧ va_Z "java/lang/String" "COMPACT_STRINGS" "Z" (.int 1) (fun q => g.2.2 ≤ q) U U.heap ∧ va_Zq "jdk/internal/util/Preconditions" "SIOOBE_FORMATTER" "Ljava/util/function/BiFunction;" (fun q => g.2.2 ≤ q) U U.heap ∧ jScr g U
theorem jSg.go {g : jG} {s U : State} (ha : s.vm.Alike U.vm) (hr : ∀ i : Nat, i < 13 → vk_R "TrainDescriber$Parser" (jsx.getD i 0) (jsT.getD i "") (jAK g i) s → vk_R "TrainDescriber$Parser" (jsx.getD i 0) (jsT.getD i "") (jAK g i) U) (hH : ∀ q : Nat, q < g.2.2 → U.heap[q]? = s.heap[q]?) (h : jSg g s) : jSg g U := by
  have hk : ∀ a : Nat, a < s.heap.size → ¬ g.2.2 ≤ a → U.heap[a]? = s.heap[a]? := fun a _ h2 => hH a (by omega)
  exact ⟨(vk_S.moved ha h.1).kept hk, fun i hi => hr i hi (h.2.1 i hi), (va_Z.moved ha h.2.2.1).kept hk, (va_Zq.moved ha h.2.2.2.1).kept hk, (va_X.moved ha h.2.2.2.2.1).kept (hH _ h.2.2.2.2.2), h.2.2.2.2.2⟩
def jK (g : jG) (U : State) : Prop := va_K g.1 jcl (jtys g) U ∧ (∀ q ∈ jeN, va_Nw (jwN q) U) ∧ jSg g U
theorem jK.warm {g : jG} {s U : State} (hW : s.WarmedH U.vm) (hH : ∀ q : Nat, q < g.2.2 → U.heap[q]? = s.heap[q]?) (h : jK g s) : jK g U := ⟨va_K.moved hW.alike h.1, fun q hq => va_Nw.warmM hW (h.2.1 q hq), jSg.go hW.alike (fun i _ hi => vk_R.warm hW hi) hH h.2.2⟩
/-- what a walk of method y leans on -/
def jX (p : Program) (s : State) (m : MethodId) (args : Array Value) (meth : Method) (c : Code) (y : Nat) : Prop :=
  p.tables.exec = Jvm.exec ∧ c.code = jbC y ∧ c.maxLocals = jmx y ∧ meth.sig.returnType = jrT y ∧ s.vm.findClass (jyN y).cls = some m.cls ∧ (∀ w ∈ jtb, w.before args s = true) ∧ meth.locks = false ∧ meth.name = (jyN y).name
/-- the heap: the cells h from the base on, below it what was there -/
def jW (g : jG) (s : State) (h : jH) (H : Heap) (locs : List Loc) : Prop := jhr g h H ∧ (∀ q : Nat, q < g.2.2 → H[q]? = s.heap[q]?) ∧ g.2.2 ≤ s.heap.size ∧ ∀ q ∈ locs, g.2.2 ≤ q.base
def jlv : Nat → List (Option Value) → List (Nat × Value)
  | _, [] => []
  | k, none :: t => jlv (k + 1) t
  | k, some v :: t => (k, v) :: jlv (k + 1) t
theorem jlv_mem : ∀ (al : List (Option Value)) (k i : Nat) (v : Value), (i, v) ∈ jlv k al ↔ k ≤ i ∧ al[i - k]? = some (some v) := by
  intro al
  induction al with
  | nil => intro k i v; simp [jlv]
  | cons a t ih =>
    intro k i v
    cases a with
    | none =>
      rw [jlv, ih]
      constructor
      · rintro ⟨h1, h2⟩
        refine ⟨by omega, ?_⟩
        rw [show i - k = (i - (k + 1)) + 1 by omega, List.getElem?_cons_succ]
        exact h2
      · rintro ⟨h1, h2⟩
        rcases Nat.lt_or_ge k i with h3 | h3
        · refine ⟨h3, ?_⟩
          rw [show i - k = (i - (k + 1)) + 1 by omega, List.getElem?_cons_succ] at h2
          exact h2
        · rw [show i - k = 0 by omega] at h2
          simp at h2
    | some w =>
      rw [jlv, List.mem_cons, ih]
      constructor
      · rintro (h1 | ⟨h1, h2⟩)
        · cases h1
          simp
        · refine ⟨by omega, ?_⟩
          rw [show i - k = (i - (k + 1)) + 1 by omega, List.getElem?_cons_succ]
          exact h2
      · rintro ⟨h1, h2⟩
        rcases Nat.lt_or_ge k i with h3 | h3
        · right
          refine ⟨h3, ?_⟩
          rw [show i - k = (i - (k + 1)) + 1 by omega, List.getElem?_cons_succ] at h2
          exact h2
        · left
          have h4 : i = k := by omega
          subst h4
          simp at h2
          rw [h2]
def jls (ls : Array Slot) (y : Nat) (al : List (Option Value)) : Prop := lv_has ls (jmx y) (jlv 0 al)
theorem jls.at {ls : Array Slot} {y : Nat} {al : List (Option Value)} (h : jls ls y al) {i : Nat} {v : Value} (hi : al[i]? = some (some v)) : ls[i]? = some (.val v) :=
  h.2.2 (i, v) ((jlv_mem al 0 i v).mpr ⟨Nat.zero_le _, hi⟩)
/-- a value of one slot comes to place i (behind a long, this falls) -/
def jst1 (al : List (Option Value)) (i : Nat) (v : Value) : List (Option Value) :=
  (match i with | 0 => al | k + 1 => match al[k]? with | some (some w) => if w.category = 2 then al.set k none else al | _ => al).set i (some v)
def jst2 (al : List (Option Value)) (i : Nat) (v : Value) : List (Option Value) :=
  ((match i with | 0 => al | k + 1 => match al[k]? with | some (some w) => if w.category = 2 then al.set k none else al | _ => al).set (i + 1) none).set i (some v)
theorem jpre_get {al : List (Option Value)} {i j : Nat} {w : Value} (h : (match i with | 0 => al | k + 1 => match al[k]? with | some (some w) => if w.category = 2 then al.set k none else al | _ => al)[j]? = some (some w)) : al[j]? = some (some w) ∧ ¬ (j + 1 = i ∧ w.category = 2) := by
  cases i with
  | zero => exact ⟨h, by omega⟩
  | succ k =>
    dsimp only at h
    cases hk : al[k]? with
    | none =>
      rw [hk] at h
      refine ⟨h, fun q => ?_⟩
      have : j = k := by omega
      subst this
      rw [hk] at h
      cases h
    | some o =>
      rw [hk] at h
      cases o with
      | none =>
        refine ⟨h, fun q => ?_⟩
        have : j = k := by omega
        subst this
        rw [hk] at h
        cases h
      | some u =>
        dsimp only at h
        by_cases hu : u.category = 2
        · rw [if_pos hu] at h
          by_cases hj : k = j
          · subst hj
            rw [List.getElem?_set_self', hk] at h
            cases h
          · rw [List.getElem?_set_ne hj] at h
            exact ⟨h, by omega⟩
        · rw [if_neg hu] at h
          refine ⟨h, fun q => ?_⟩
          have : j = k := by omega
          subst this
          rw [hk] at h
          cases h
          exact hu q.2
theorem jls.st1 {ls ls' : Array Slot} {y i : Nat} {al : List (Option Value)} {v : Value} (h : lv_has ls' (jmx y) ((i, v) :: (jlv 0 al).filter (fun q => !(q.1 == i) && !(q.1 + 1 == i && q.2.category == 2)))) : jls ls' y (jst1 al i v) := by
  refine ⟨h.1, h.2.1, fun q hq => ?_⟩
  obtain ⟨j, w⟩ := q
  obtain ⟨-, hj⟩ := (jlv_mem _ 0 j w).mp hq
  rw [Nat.sub_zero] at hj
  unfold jst1 at hj
  by_cases hji : i = j
  · subst hji
    rw [List.getElem?_set_self'] at hj
    have hw : w = v := by
      revert hj
      generalize (match i with | 0 => al | k + 1 => match al[k]? with | some (some w) => if w.category = 2 then al.set k none else al | _ => al)[i]? = o
      intro hj
      cases o with
      | none => cases hj
      | some o => simpa using hj.symm
    subst hw
    exact h.2.2 (i, w) List.mem_cons_self
  · rw [List.getElem?_set_ne hji] at hj
    obtain ⟨h1, h2⟩ := jpre_get hj
    refine h.2.2 (j, w) (List.mem_cons_of_mem _ (List.mem_filter.mpr ⟨(jlv_mem al 0 j w).mpr ⟨Nat.zero_le _, h1⟩, ?_⟩))
    simp only [Bool.and_eq_true, Bool.not_eq_true', beq_eq_false_iff_ne, Bool.and_eq_false_iff, beq_iff_eq]
    refine ⟨fun q => hji q.symm, ?_⟩
    by_cases h3 : j + 1 = i
    · exact Or.inr (fun q => h2 ⟨h3, q⟩)
    · exact Or.inl h3
theorem jls.st2 {ls ls' : Array Slot} {y i : Nat} {al : List (Option Value)} {v : Value} (h : lv_has ls' (jmx y) ((i, v) :: (jlv 0 al).filter (fun q => !(q.1 == i) && (!(q.1 == i + 1) && !(q.1 + 1 == i && q.2.category == 2))))) : jls ls' y (jst2 al i v) := by
  refine ⟨h.1, h.2.1, fun q hq => ?_⟩
  obtain ⟨j, w⟩ := q
  obtain ⟨-, hj⟩ := (jlv_mem _ 0 j w).mp hq
  rw [Nat.sub_zero] at hj
  unfold jst2 at hj
  by_cases hji : i = j
  · subst hji
    rw [List.getElem?_set_self'] at hj
    have hw : w = v := by
      revert hj
      generalize ((match i with | 0 => al | k + 1 => match al[k]? with | some (some w) => if w.category = 2 then al.set k none else al | _ => al).set (i + 1) none)[i]? = o
      intro hj
      cases o with
      | none => cases hj
      | some o => simpa using hj.symm
    subst hw
    exact h.2.2 (i, w) List.mem_cons_self
  · rw [List.getElem?_set_ne hji] at hj
    by_cases hj1 : i + 1 = j
    · subst hj1
      rw [List.getElem?_set_self'] at hj
      exfalso
      revert hj
      generalize (match i with | 0 => al | k + 1 => match al[k]? with | some (some w) => if w.category = 2 then al.set k none else al | _ => al)[i + 1]? = o
      intro hj
      cases o with
      | none => cases hj
      | some o => simp at hj
    · rw [List.getElem?_set_ne hj1] at hj
      obtain ⟨h1, h2⟩ := jpre_get hj
      refine h.2.2 (j, w) (List.mem_cons_of_mem _ (List.mem_filter.mpr ⟨(jlv_mem al 0 j w).mpr ⟨Nat.zero_le _, h1⟩, ?_⟩))
      simp only [Bool.and_eq_true, Bool.not_eq_true', beq_eq_false_iff_ne, Bool.and_eq_false_iff, beq_iff_eq]
      refine ⟨fun q => hji q.symm, fun q => hj1 q.symm, ?_⟩
      by_cases h3 : j + 1 = i
      · exact Or.inr (fun q => h2 ⟨h3, q⟩)
      · exact Or.inl h3
/-- which return instruction gives v -/
def jrv (y pc : Nat) (v : Option Value) : Prop := match v with
  | none => decode (jbC y) pc = .ok (.return_, 1) ∧ jrT y = none
  | some (.int x) => decode (jbC y) pc = .ok (.ireturn, 1) ∧ (jrT y = some .int ∨ (jrT y = some .boolean ∧ (x = 0 ∨ x = 1)) ∨ (jrT y = some .byte ∧ narrow .byte (.int x) = .int x) ∨ (jrT y = some .char ∧ narrow .char (.int x) = .int x))
  | some (.ref _) => decode (jbC y) pc = .ok (.areturn, 1) ∧ ∃ n, jrT y = some (.object n)
  | some .null => decode (jbC y) pc = .ok (.areturn, 1) ∧ ∃ n, jrT y = some (.object n)
  | _ => False
def jZ (p : Program) (l : Launch) (e : Env) (R : Room) (s : State) (m : MethodId) (args : Array Value) (below : List Frame) (meth : Method) (c : Code) (g : jG) (y MC MS : Nat) (Z : State → Prop) (Q : Option Value → jH → Prop) : Prop :=
  ∀ (pc : Nat) (ls : Array Slot) (H : Heap) (locs : List Loc) (h : jH) (v : Option Value), jrv y pc v → jW g s h H locs → Q v h → W p l e R s m args below meth c H locs MC MS Z (F0 m pc ls v.toList)
/-- THE JUDGEMENT: method y at pc, with locals al, stack st, heap h, and room for kc cells of ks slots, returns with Q; d frames may stand above it -/
def J (l : Launch) (g : jG) (y d : Nat) (pc : Nat) (al : List (Option Value)) (st : List Value) (h : jH) (kc ks : Nat) (Q : Option Value → jH → Prop) : Prop :=
  ∀ (p : Program) (e : Env) (R : Room) (s : State) (m : MethodId) (args : Array Value) (below : List Frame) (meth : Method) (c : Code) (Z : State → Prop) (MC MS : Nat),
    jX p s m args meth c y → jK g s → d ≤ R.frames → 64 * d ≤ R.locals → MC ≤ R.cells → MS ≤ R.slots → jZ p l e R s m args below meth c g y MC MS Z Q →
    ∀ (H : Heap) (locs : List Loc) (cells slots : Nat) (ls : Array Slot), jW g s h H locs → jls ls y al → cells + kc ≤ MC → slots + ks ≤ MS →
      W p l e R s m args below meth c H locs cells slots Z (F0 m pc ls st)
def jws (y : Nat) : List Cond := jwCode y :: jtb
def jQc (g : jG) (Q : Option Value → jH → Prop) : Array Value → State → Outcome → State → Prop := fun _ st oc t => ∃ (v : Option Value) (h' : jH), oc = .returned v ∧ Q v h' ∧ jhr g h' t.heap ∧ ∀ q : Nat, q < g.2.2 → t.heap[q]? = st.heap[q]?
/-- A CALL of y with av on the heap h returns with Q -/
def jCal (l : Launch) (g : jG) (y d : Nat) (av : List Value) (h : jH) (mc ms : Nat) (Q : Option Value → jH → Prop) : Prop :=
  Met l (jyN y) (jws y) { frames := d, cells := mc, slots := ms, locals := 64 * d } (va_Pc av (fun U => jhr g h U.heap ∧ jK g U)) (jQc g Q) mc ms (fun q => g.2.2 ≤ q)
