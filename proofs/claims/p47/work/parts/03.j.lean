section
/-! THE J LAYER: a method's walk over a heap that is a list of cells. A cell: (type, length, contents) of an array of ints (type 0) or booleans (type 1), or (class, fields). -/
abbrev jC : Type := (Nat × Nat × (Nat → Int32)) ⊕ (Nat × List Value)
abbrev jH : Type := List jC
/-- ((classes' numbers, slots), array classes by type, the address of the heap's first cell) -/
abbrev jG : Type := va_G × (Nat → ClassId) × Nat
def jat (g : jG) (a : Nat) (c : jC) (H : Heap) : Prop := match c with
  | .inl q => H[a]? = some (vp_cell (g.2.1 q.1) (q.2.1, .inl q.2.2))
  | .inr o => ∃ r : vw_C, jcl[o.1]? = some r ∧ t_OB a (g.1.1 o.1) r.2.2 (g.1.2 o.1) H (vp_V o.2)
def jhr (g : jG) (h : jH) (H : Heap) : Prop := H.size = g.2.2 + h.length ∧ ∀ (k : Nat) (c : jC), h[k]? = some c → jat g (g.2.2 + k) c H
abbrev jtys (g : jG) : List (ClassId × FieldType) := [(g.2.1 0, .int), (g.2.1 1, .boolean)]
/-! the String constants of the parser: places in its pool, texts, lengths, bytes; their addresses stand in g's second component behind the array classes -/
def jsx : List Nat := [77, 83, 85, 87, 89, 91, 93, 98, 100, 102, 104, 106, 108]
def jsT : List String := ["step", "to", "clear", "at", "drop", "pick", "if", "or", "and", "not", "track", "signal", "full"]
def jsl : List Nat := [4, 2, 5, 2, 4, 4, 2, 2, 3, 3, 5, 6, 4]
def jsb : List (List Int32) := [[115, 116, 101, 112], [116, 111], [99, 108, 101, 97, 114], [97, 116], [100, 114, 111, 112], [112, 105, 99, 107], [105, 102], [111, 114], [97, 110, 100], [110, 111, 116], [116, 114, 97, 99, 107], [115, 105, 103, 110, 97, 108], [102, 117, 108, 108]]
def jAK (g : jG) (i : Nat) : Nat := g.2.1 (2 + i)
def jAV (g : jG) (i : Nat) : Nat := g.2.1 (32 + i)
/-- the law's script: its cell, its length, its ints, in g too -/
def jsN (g : jG) : Nat := g.2.1 81
def jsX (g : jG) (i : Nat) : Int32 := Int32.ofNat (g.2.1 (100 + i))
def jScr (g : jG) (U : State) : Prop := va_X (g.2.1 80) (jsN g) (jsX g) U U.heap ∧ g.2.1 80 < g.2.2
def jSg (g : jG) (U : State) : Prop := vk_S 13 jsl jsb (jAK g) (jAV g) (fun q => g.2.2 ≤ q) U U.heap ∧ (∀ i : Nat, i < 13 → vk_R "TrainDescriber$Parser" (jsx.getD i 0) (jsT.getD i "") (jAK g i) U) ∧ va_Z "java/lang/String" "COMPACT_STRINGS" "Z" (.int 1) (fun q => g.2.2 ≤ q) U U.heap ∧ va_Zq "jdk/internal/util/Preconditions" "SIOOBE_FORMATTER" "Ljava/util/function/BiFunction;" (fun q => g.2.2 ≤ q) U U.heap ∧ jScr g U
theorem jSg.go {g : jG} {s U : State} (ha : s.vm.Alike U.vm) (hr : ∀ i : Nat, i < 13 → vk_R "TrainDescriber$Parser" (jsx.getD i 0) (jsT.getD i "") (jAK g i) s → vk_R "TrainDescriber$Parser" (jsx.getD i 0) (jsT.getD i "") (jAK g i) U) (hH : ∀ q : Nat, q < g.2.2 → U.heap[q]? = s.heap[q]?) (h : jSg g s) : jSg g U := by
  have hk : ∀ a : Nat, a < s.heap.size → ¬ g.2.2 ≤ a → U.heap[a]? = s.heap[a]? := fun a _ h2 => hH a (by omega)
  exact ⟨(vk_S.moved ha h.1).kept hk, fun i hi => hr i hi (h.2.1 i hi), (va_Z.moved ha h.2.2.1).kept hk, (va_Zq.moved ha h.2.2.2.1).kept hk, (va_X.moved ha h.2.2.2.2.1).kept (hH _ h.2.2.2.2.2), h.2.2.2.2.2⟩
def jK (g : jG) (U : State) : Prop := va_K g.1 jcl (jtys g) U ∧ (∀ q ∈ jeN, va_Nw (jwN q) U) ∧ jSg g U
theorem jK.warm {g : jG} {s U : State} (hW : s.WarmedH U.vm) (hH : ∀ q : Nat, q < g.2.2 → U.heap[q]? = s.heap[q]?) (h : jK g s) : jK g U := ⟨va_K.moved hW.alike h.1, fun q hq => va_Nw.warmM hW (h.2.1 q hq), jSg.go hW.alike (fun i _ hi => vk_R.warm hW hi) hH h.2.2⟩
/-- what a walk of method y leans on -/
def jX (p : Program) (s : State) (m : MethodId) (args : Array Value) (meth : Method) (c : Code) (y : Nat) : Prop :=
  p.tables.exec = Jvm.exec ∧ c.code = jbC y ∧ c.maxLocals = jmx y ∧ meth.sig.returnType = jrT y ∧ s.vm.findClass (jyN y).cls = some m.cls ∧ (∀ w ∈ jtb, w.before args s = true) ∧ meth.locks = false ∧ meth.name = (jyN y).name
/-- the heap: the cells h from the base on, below it what was there -/
def jW (g : jG) (s : State) (h : jH) (H : Heap) (locs : List Loc) : Prop := jhr g h H ∧ (∀ q : Nat, q < g.2.2 → H[q]? = s.heap[q]?) ∧ g.2.2 ≤ s.heap.size ∧ ∀ q ∈ locs, g.2.2 ≤ q.base
def jlv : Nat → List (Option Value) → List (Nat × Value)
  | _, [] => []
  | k, none :: t => jlv (k + 1) t
  | k, some v :: t => (k, v) :: jlv (k + 1) t
theorem jlv_mem : ∀ (al : List (Option Value)) (k i : Nat) (v : Value), (i, v) ∈ jlv k al ↔ k ≤ i ∧ al[i - k]? = some (some v) := by
  intro al
  induction al with
  | nil => intro k i v; simp [jlv]
  | cons a t ih =>
    intro k i v
    cases a with
    | none =>
      rw [jlv, ih]
      constructor
      · rintro ⟨h1, h2⟩
        refine ⟨by omega, ?_⟩
        rw [show i - k = (i - (k + 1)) + 1 by omega, List.getElem?_cons_succ]
        exact h2
      · rintro ⟨h1, h2⟩
        rcases Nat.lt_or_ge k i with h3 | h3
        · refine ⟨h3, ?_⟩
          rw [show i - k = (i - (k + 1)) + 1 by omega, List.getElem?_cons_succ] at h2
          exact h2
        · rw [show i - k = 0 by omega] at h2
          simp at h2
    | some w =>
      rw [jlv, List.mem_cons, ih]
      constructor
      · rintro (h1 | ⟨h1, h2⟩)
        · cases h1
          simp
        · refine ⟨by omega, ?_⟩
          rw [show i - k = (i - (k + 1)) + 1 by omega, List.getElem?_cons_succ]
          exact h2
      · rintro ⟨h1, h2⟩
        rcases Nat.lt_or_ge k i with h3 | h3
        · right
          refine ⟨h3, ?_⟩
          rw [show i - k = (i - (k + 1)) + 1 by omega, List.getElem?_cons_succ] at h2
          exact h2
        · left
          have h4 : i = k := by omega
          subst h4
          simp at h2
          rw [h2]
def jls (ls : Array Slot) (y : Nat) (al : List (Option Value)) : Prop := lv_has ls (jmx y) (jlv 0 al)
theorem jls.at {ls : Array Slot} {y : Nat} {al : List (Option Value)} (h : jls ls y al) {i : Nat} {v : Value} (hi : al[i]? = some (some v)) : ls[i]? = some (.val v) :=
  h.2.2 (i, v) ((jlv_mem al 0 i v).mpr ⟨Nat.zero_le _, hi⟩)
/-- a value of one slot comes to place i (behind a long, this falls) -/
def jst1 (al : List (Option Value)) (i : Nat) (v : Value) : List (Option Value) :=
  (match i with | 0 => al | k + 1 => match al[k]? with | some (some w) => if w.category = 2 then al.set k none else al | _ => al).set i (some v)
def jst2 (al : List (Option Value)) (i : Nat) (v : Value) : List (Option Value) :=
  ((match i with | 0 => al | k + 1 => match al[k]? with | some (some w) => if w.category = 2 then al.set k none else al | _ => al).set (i + 1) none).set i (some v)
theorem jpre_get {al : List (Option Value)} {i j : Nat} {w : Value} (h : (match i with | 0 => al | k + 1 => match al[k]? with | some (some w) => if w.category = 2 then al.set k none else al | _ => al)[j]? = some (some w)) : al[j]? = some (some w) ∧ ¬ (j + 1 = i ∧ w.category = 2) := by
  cases i with
  | zero => exact ⟨h, by omega⟩
  | succ k =>
    dsimp only at h
    cases hk : al[k]? with
    | none =>
      rw [hk] at h
      refine ⟨h, fun q => ?_⟩
      have : j = k := by omega
      subst this
      rw [hk] at h
      cases h
    | some o =>
      rw [hk] at h
      cases o with
      | none =>
        refine ⟨h, fun q => ?_⟩
        have : j = k := by omega
        subst this
        rw [hk] at h
        cases h
      | some u =>
        dsimp only at h
        by_cases hu : u.category = 2
        · rw [if_pos hu] at h
          by_cases hj : k = j
          · subst hj
            rw [List.getElem?_set_self', hk] at h
            cases h
          · rw [List.getElem?_set_ne hj] at h
            exact ⟨h, by omega⟩
        · rw [if_neg hu] at h
          refine ⟨h, fun q => ?_⟩
          have : j = k := by omega
          subst this
          rw [hk] at h
          cases h
          exact hu q.2
theorem jls.st1 {ls ls' : Array Slot} {y i : Nat} {al : List (Option Value)} {v : Value} (h : lv_has ls' (jmx y) ((i, v) :: (jlv 0 al).filter (fun q => !(q.1 == i) && !(q.1 + 1 == i && q.2.category == 2)))) : jls ls' y (jst1 al i v) := by
  refine ⟨h.1, h.2.1, fun q hq => ?_⟩
  obtain ⟨j, w⟩ := q
  obtain ⟨-, hj⟩ := (jlv_mem _ 0 j w).mp hq
  rw [Nat.sub_zero] at hj
  unfold jst1 at hj
  by_cases hji : i = j
  · subst hji
    rw [List.getElem?_set_self'] at hj
    have hw : w = v := by
      revert hj
      generalize (match i with | 0 => al | k + 1 => match al[k]? with | some (some w) => if w.category = 2 then al.set k none else al | _ => al)[i]? = o
      intro hj
      cases o with
      | none => cases hj
      | some o => simpa using hj.symm
    subst hw
    exact h.2.2 (i, w) List.mem_cons_self
  · rw [List.getElem?_set_ne hji] at hj
    obtain ⟨h1, h2⟩ := jpre_get hj
    refine h.2.2 (j, w) (List.mem_cons_of_mem _ (List.mem_filter.mpr ⟨(jlv_mem al 0 j w).mpr ⟨Nat.zero_le _, h1⟩, ?_⟩))
    simp only [Bool.and_eq_true, Bool.not_eq_true', beq_eq_false_iff_ne, Bool.and_eq_false_iff, beq_iff_eq]
    refine ⟨fun q => hji q.symm, ?_⟩
    by_cases h3 : j + 1 = i
    · exact Or.inr (fun q => h2 ⟨h3, q⟩)
    · exact Or.inl h3
theorem jls.st2 {ls ls' : Array Slot} {y i : Nat} {al : List (Option Value)} {v : Value} (h : lv_has ls' (jmx y) ((i, v) :: (jlv 0 al).filter (fun q => !(q.1 == i) && (!(q.1 == i + 1) && !(q.1 + 1 == i && q.2.category == 2))))) : jls ls' y (jst2 al i v) := by
  refine ⟨h.1, h.2.1, fun q hq => ?_⟩
  obtain ⟨j, w⟩ := q
  obtain ⟨-, hj⟩ := (jlv_mem _ 0 j w).mp hq
  rw [Nat.sub_zero] at hj
  unfold jst2 at hj
  by_cases hji : i = j
  · subst hji
    rw [List.getElem?_set_self'] at hj
    have hw : w = v := by
      revert hj
      generalize ((match i with | 0 => al | k + 1 => match al[k]? with | some (some w) => if w.category = 2 then al.set k none else al | _ => al).set (i + 1) none)[i]? = o
      intro hj
      cases o with
      | none => cases hj
      | some o => simpa using hj.symm
    subst hw
    exact h.2.2 (i, w) List.mem_cons_self
  · rw [List.getElem?_set_ne hji] at hj
    by_cases hj1 : i + 1 = j
    · subst hj1
      rw [List.getElem?_set_self'] at hj
      exfalso
      revert hj
      generalize (match i with | 0 => al | k + 1 => match al[k]? with | some (some w) => if w.category = 2 then al.set k none else al | _ => al)[i + 1]? = o
      intro hj
      cases o with
      | none => cases hj
      | some o => simp at hj
    · rw [List.getElem?_set_ne hj1] at hj
      obtain ⟨h1, h2⟩ := jpre_get hj
      refine h.2.2 (j, w) (List.mem_cons_of_mem _ (List.mem_filter.mpr ⟨(jlv_mem al 0 j w).mpr ⟨Nat.zero_le _, h1⟩, ?_⟩))
      simp only [Bool.and_eq_true, Bool.not_eq_true', beq_eq_false_iff_ne, Bool.and_eq_false_iff, beq_iff_eq]
      refine ⟨fun q => hji q.symm, fun q => hj1 q.symm, ?_⟩
      by_cases h3 : j + 1 = i
      · exact Or.inr (fun q => h2 ⟨h3, q⟩)
      · exact Or.inl h3
/-- which return instruction gives v -/
def jrv (y pc : Nat) (v : Option Value) : Prop := match v with
  | none => decode (jbC y) pc = .ok (.return_, 1) ∧ jrT y = none
  | some (.int x) => decode (jbC y) pc = .ok (.ireturn, 1) ∧ (jrT y = some .int ∨ (jrT y = some .boolean ∧ (x = 0 ∨ x = 1)) ∨ (jrT y = some .byte ∧ narrow .byte (.int x) = .int x) ∨ (jrT y = some .char ∧ narrow .char (.int x) = .int x))
  | some (.ref _) => decode (jbC y) pc = .ok (.areturn, 1) ∧ ∃ n, jrT y = some (.object n)
  | some .null => decode (jbC y) pc = .ok (.areturn, 1) ∧ ∃ n, jrT y = some (.object n)
  | _ => False
def jZ (p : Program) (l : Launch) (e : Env) (R : Room) (s : State) (m : MethodId) (args : Array Value) (below : List Frame) (meth : Method) (c : Code) (g : jG) (y MC MS : Nat) (Z : State → Prop) (Q : Option Value → jH → Prop) : Prop :=
  ∀ (pc : Nat) (ls : Array Slot) (H : Heap) (locs : List Loc) (h : jH) (v : Option Value), jrv y pc v → jW g s h H locs → Q v h → W p l e R s m args below meth c H locs MC MS Z (F0 m pc ls v.toList)
/-- THE JUDGEMENT: method y at pc, with locals al, stack st, heap h, and room for kc cells of ks slots, returns with Q; d frames may stand above it -/
def J (l : Launch) (g : jG) (y d : Nat) (pc : Nat) (al : List (Option Value)) (st : List Value) (h : jH) (kc ks : Nat) (Q : Option Value → jH → Prop) : Prop :=
  ∀ (p : Program) (e : Env) (R : Room) (s : State) (m : MethodId) (args : Array Value) (below : List Frame) (meth : Method) (c : Code) (Z : State → Prop) (MC MS : Nat),
    jX p s m args meth c y → jK g s → d ≤ R.frames → 64 * d ≤ R.locals → MC ≤ R.cells → MS ≤ R.slots → jZ p l e R s m args below meth c g y MC MS Z Q →
    ∀ (H : Heap) (locs : List Loc) (cells slots : Nat) (ls : Array Slot), jW g s h H locs → jls ls y al → cells + kc ≤ MC → slots + ks ≤ MS →
      W p l e R s m args below meth c H locs cells slots Z (F0 m pc ls st)
def jws (y : Nat) : List Cond := jwCode y :: jtb
def jQc (g : jG) (Q : Option Value → jH → Prop) : Array Value → State → Outcome → State → Prop := fun _ st oc t => ∃ (v : Option Value) (h' : jH), oc = .returned v ∧ Q v h' ∧ jhr g h' t.heap ∧ ∀ q : Nat, q < g.2.2 → t.heap[q]? = st.heap[q]?
/-- A CALL of y with av on the heap h returns with Q -/
def jCal (l : Launch) (g : jG) (y d : Nat) (av : List Value) (h : jH) (mc ms : Nat) (Q : Option Value → jH → Prop) : Prop :=
  Met l (jyN y) (jws y) { frames := d, cells := mc, slots := ms, locals := 64 * d } (va_Pc av (fun U => jhr g h U.heap ∧ jK g U)) (jQc g Q) mc ms (fun q => g.2.2 ≤ q)
end
section

theorem jcl_in {ci : Nat} {r : vw_C} (h : jcl[ci]? = some r) : (∀ w ∈ u_ws r.1 r.2.1 r.2.2, w ∈ jtb) ∧ (∃ ty : Nat → FieldType, ∀ k, k < r.2.2 → parseFieldDescriptor (r.2.1 k).2.2.1 = some (ty k)) ∧ (∀ a, a < r.2.2 → ∀ b, b < r.2.2 → a ≠ b → (r.2.1 a).2.1 ≠ (r.2.1 b).2.1) := by
  have hf : ∀ {ws : List Cond} {ps : List Nat}, ws = ps.filterMap wT → ws.all goodWord = true → ∀ w ∈ ws, w ∈ jtb := by
    intro ws ps e hg w hw
    refine List.mem_filter.mpr ⟨?_, List.all_eq_true.mp hg w hw⟩
    rw [e] at hw
    obtain ⟨i, -, hi⟩ := List.mem_filterMap.mp hw
    exact wT_in hi
  match ci, h with
  | 0, h => cases h; exact ⟨hf jlay_0 jlayg_0, ⟨tyX0, tyX0_ok⟩, nmX0⟩
  | 1, h => cases h; exact ⟨hf jlay_1 jlayg_1, ⟨tyX1, tyX1_ok⟩, nmX1⟩
  | 2, h => cases h; exact ⟨hf jlay_2 jlayg_2, ⟨tyX2, tyX2_ok⟩, nmX2⟩
  | 3, h => cases h; exact ⟨hf jlay_3 jlayg_3, ⟨tyX3, tyX3_ok⟩, nmX3⟩
  | 4, h => cases h; exact ⟨hf jlay_4 jlayg_4, ⟨tyX4, tyX4_ok⟩, nmX4⟩
  | 5, h => cases h; exact ⟨hf jlay_5 jlayg_5, ⟨tyX5, tyX5_ok⟩, nmX5⟩
  | 6, h => cases h; exact ⟨hf jlay_6 jlayg_6, ⟨tyX6, tyX6_ok⟩, nmX6⟩
  | 7, h => cases h; exact ⟨hf jlay_7 jlayg_7, ⟨tyX7, tyX7_ok⟩, nmX7⟩
  | 8, h => cases h; exact ⟨hf jlay_8 jlayg_8, ⟨tyX8, tyX8_ok⟩, nmX8⟩
  | 9, h => cases h; exact ⟨hf jlay_9 jlayg_9, ⟨tyX9, tyX9_ok⟩, nmX9⟩
  | 10, h => cases h; exact ⟨hf jlay_10 jlayg_10, ⟨tyX10, tyX10_ok⟩, nmX10⟩
  | 11, h => cases h; exact ⟨hf jlay_11 jlayg_11, ⟨tyX11, tyX11_ok⟩, nmX11⟩
  | 12, h => cases h; exact ⟨hf jlay_12 jlayg_12, ⟨tyX12, tyX12_ok⟩, nmX12⟩
  | k + 13, h => simp [jcl] at h

theorem jargs_mem : ∀ (vs : List Value) (al : List (Option Value)) (k : Nat), (∀ i v, al[i]? = some (some v) → (k + i, v) ∈ lv_args k vs) → True := fun _ _ _ _ => trivial
def jargs : List Value → List (Option Value)
  | [] => []
  | v :: t => if v.category = 2 then some v :: none :: jargs t else some v :: jargs t
theorem jargs_in : ∀ (vs : List Value) (k i : Nat) (v : Value), (jargs vs)[i]? = some (some v) → (k + i, v) ∈ lv_args k vs := by
  intro vs
  induction vs with
  | nil => intro k i v h; simp [jargs] at h
  | cons a t ih =>
    intro k i v h
    rw [jargs] at h
    rw [lv_args, List.mem_cons]
    by_cases ha : a.category = 2
    · rw [if_pos ha] at h
      rw [if_pos ha]
      match i, h with
      | 0, h => left; simp at h; rw [h]; rfl
      | 1, h => simp at h
      | j + 2, h =>
        right
        have := ih (k + 2) j v (by simpa using h)
        rw [show k + (j + 2) = k + 2 + j by omega]
        exact this
    · rw [if_neg ha] at h
      rw [if_neg ha]
      match i, h with
      | 0, h => left; simp at h; rw [h]; rfl
      | j + 1, h =>
        right
        have := ih (k + 1) j v (by simpa using h)
        rw [show k + (j + 1) = k + 1 + j by omega]
        exact this
def jal (y : Nat) (av : List Value) : List (Option Value) := jargs av ++ List.replicate (jmx y - (jargs av).length) none
theorem jal_in {y : Nat} {av : List Value} {q : Nat × Value} (h : q ∈ jlv 0 (jal y av)) : q ∈ lv_args 0 av := by
  obtain ⟨i, v⟩ := q
  obtain ⟨-, h⟩ := (jlv_mem _ 0 i v).mp h
  rw [Nat.sub_zero, jal] at h
  have := jargs_in av 0 i v
  rw [Nat.zero_add] at this
  apply this
  rcases Nat.lt_or_ge i (jargs av).length with h1 | h1
  · rw [List.getElem?_append_left h1] at h
    exact h
  · rw [List.getElem?_append_right h1] at h
    rw [List.getElem?_replicate] at h
    split at h <;> simp at h
section JE
variable {l : Launch} {g : jG} {y d : Nat} {av : List Value} {h : jH} {mc ms : Nat} {Q : Option Value → jH → Prop}
set_option maxHeartbeats 2000000 in
theorem jCal_of (hp : plainName (jyN y).cls = true) (hn : (lg_sl av).length ≤ jmx y) (k : J l g y d 0 (jal y av) [] h mc ms Q) : jCal l g y d av h mc ms Q := by
  refine Met.ofW (cc := jbC y) (maxL := jmx y) (ret := jrT y) hp rfl ?_
  intro p e s m args below meth c s₁ B hml hv
  obtain ⟨rfl, hh, hK⟩ := hv
  have hts := atoms_spec (ws := jws y) B.pre
  have hown : s.vm.findClass (jyN y).cls = some m.cls := findClass_of_methodNamed B.named
  have hnm : meth.name = (jyN y).name := (name_of_methodNamed B.named B.method).1
  have hl := lv_entry av hn
  rw [lg_entry_eq]
  have hl' : jls ((lg_sl av ++ List.replicate (jmx y - (lg_sl av).length) Slot.unset).toArray) y (jal y av) := ⟨hl.1, hl.2.1, fun q hq => hl.2.2 q (jal_in hq)⟩
  have hlocks := B.notSynchronized
  refine k p e _ s m _ below meth c _ mc ms ⟨B.exec, B.bytes, hml, B.returns, hown, fun w hw => hts w (List.mem_cons_of_mem _ hw), B.notSynchronized, hnm⟩ hK (Nat.le_refl _) (Nat.le_refl _) (Nat.le_refl _) (Nat.le_refl _) ?_ s.heap [] 0 0 _ ⟨hh, fun _ _ => rfl, by rw [hh.1]; omega, fun _ h => absurd h List.not_mem_nil⟩ hl' (by omega) (by omega)
  intro pc ls H locs h2 v hv hW hq
  have hpost : ∀ t : State, t.heap = H → s.WarmedH t.vm → jQc g Q av.toArray s (.returned v) t := fun t ht _ => ⟨v, h2, rfl, hq, by rw [ht]; exact hW.1, fun q hlt => by rw [ht]; exact hW.2.1 q hlt⟩
  cases v with
  | none => exact W.vret B.exec B.bytes (by rw [B.returns]; exact hv.2) hpost hW.2.2.2 hv.1
  | some v =>
    cases v with
    | int x =>
      rcases hv.2 with h1 | ⟨h1, h3⟩ | ⟨h1, h3⟩ | ⟨h1, h3⟩
      · exact W.zret (ty := .int) B.exec B.bytes (by rw [B.returns]; exact h1) rfl hpost hW.2.2.2 hv.1
      · exact W.zret (ty := .boolean) B.exec B.bytes (by rw [B.returns]; exact h1) (by rcases h3 with rfl | rfl <;> decide) hpost hW.2.2.2 hv.1
      · exact W.zret (ty := .byte) B.exec B.bytes (by rw [B.returns]; exact h1) h3 hpost hW.2.2.2 hv.1
      · exact W.zret (ty := .char) B.exec B.bytes (by rw [B.returns]; exact h1) h3 hpost hW.2.2.2 hv.1
    | ref a =>
      obtain ⟨n, h1⟩ := hv.2
      exact W.aret B.exec B.bytes (by rw [B.returns]; exact h1) (Or.inl ⟨n, rfl⟩) (Or.inr ⟨a, rfl⟩) hpost hW.2.2.2 hv.1
    | null =>
      obtain ⟨n, h1⟩ := hv.2
      exact W.aret B.exec B.bytes (by rw [B.returns]; exact h1) (Or.inl ⟨n, rfl⟩) (Or.inl rfl) hpost hW.2.2.2 hv.1
    | _ => exact absurd hv id
end JE
section JR
variable {l : Launch} {g : jG} {y d pc : Nat} {al : List (Option Value)} {st : List Value} {h : jH} {kc ks : Nat} {Q : Option Value → jH → Prop}

theorem j_iconst {n : Int} (hd : decode (jbC y) pc = .ok (.iconst n, 1)) (k : J l g y d (pc + 1) al (.int (Int32.ofInt n) :: st) h kc ks Q) : J l g y d pc al st h kc ks Q := by
  intro p e R s m args below meth c Z MC MS X K r1 r2 r3 r4 hZ H locs cells slots ls hW hl c1 c2
  exact lv_iconst X.1 X.2.1 hd rfl (k p e R s m args below meth c Z MC MS X K r1 r2 r3 r4 hZ H locs cells slots ls hW hl c1 c2)
theorem j_bipush {n : Int} (hd : decode (jbC y) pc = .ok (.bipush n, 2)) (k : J l g y d (pc + 2) al (.int (Int8.ofInt n).toInt32 :: st) h kc ks Q) : J l g y d pc al st h kc ks Q := by
  intro p e R s m args below meth c Z MC MS X K r1 r2 r3 r4 hZ H locs cells slots ls hW hl c1 c2
  exact lv_bipush X.1 X.2.1 hd rfl (k p e R s m args below meth c Z MC MS X K r1 r2 r3 r4 hZ H locs cells slots ls hW hl c1 c2)
theorem j_sipush {n : Int} (hd : decode (jbC y) pc = .ok (.sipush n, 3)) (k : J l g y d (pc + 3) al (.int (Int16.ofInt n).toInt32 :: st) h kc ks Q) : J l g y d pc al st h kc ks Q := by
  intro p e R s m args below meth c Z MC MS X K r1 r2 r3 r4 hZ H locs cells slots ls hW hl c1 c2
  exact lv_sipush X.1 X.2.1 hd rfl (k p e R s m args below meth c Z MC MS X K r1 r2 r3 r4 hZ H locs cells slots ls hW hl c1 c2)
theorem j_lconst {n : Fin 2} (hd : decode (jbC y) pc = .ok (.lconst n, 1)) (k : J l g y d (pc + 1) al (.long (Int64.ofNat (n : Nat)) :: st) h kc ks Q) : J l g y d pc al st h kc ks Q := by
  intro p e R s m args below meth c Z MC MS X K r1 r2 r3 r4 hZ H locs cells slots ls hW hl c1 c2
  exact lv_lconst X.1 X.2.1 hd rfl (k p e R s m args below meth c Z MC MS X K r1 r2 r3 r4 hZ H locs cells slots ls hW hl c1 c2)
theorem j_null  (hd : decode (jbC y) pc = .ok (.aconst_null, 1)) (k : J l g y d (pc + 1) al (.null :: st) h kc ks Q) : J l g y d pc al st h kc ks Q := by
  intro p e R s m args below meth c Z MC MS X K r1 r2 r3 r4 hZ H locs cells slots ls hW hl c1 c2
  exact lv_null X.1 X.2.1 hd (k p e R s m args below meth c Z MC MS X K r1 r2 r3 r4 hZ H locs cells slots ls hW hl c1 c2)
theorem j_iload_n {k4 : Fin 4} {v : Int32} (hd : decode (jbC y) pc = .ok (.iload_n k4, 1)) (hi : al[(k4 : Nat)]? = some (some (.int v))) (k : J l g y d (pc + 1) al (.int v :: st) h kc ks Q) : J l g y d pc al st h kc ks Q := by
  intro p e R s m args below meth c Z MC MS X K r1 r2 r3 r4 hZ H locs cells slots ls hW hl c1 c2
  exact lv_iload_n X.1 X.2.1 hd rfl (hl.at hi) (k p e R s m args below meth c Z MC MS X K r1 r2 r3 r4 hZ H locs cells slots ls hW hl c1 c2)
theorem j_iload {i : Nat} {v : Int32} (hd : decode (jbC y) pc = .ok (.iload i, 2)) (hi : al[i]? = some (some (.int v))) (k : J l g y d (pc + 2) al (.int v :: st) h kc ks Q) : J l g y d pc al st h kc ks Q := by
  intro p e R s m args below meth c Z MC MS X K r1 r2 r3 r4 hZ H locs cells slots ls hW hl c1 c2
  exact lv_iload X.1 X.2.1 hd (hl.at hi) (k p e R s m args below meth c Z MC MS X K r1 r2 r3 r4 hZ H locs cells slots ls hW hl c1 c2)
theorem j_lload_n {k4 : Fin 4} {v : Int64} (hd : decode (jbC y) pc = .ok (.lload_n k4, 1)) (hi : al[(k4 : Nat)]? = some (some (.long v))) (k : J l g y d (pc + 1) al (.long v :: st) h kc ks Q) : J l g y d pc al st h kc ks Q := by
  intro p e R s m args below meth c Z MC MS X K r1 r2 r3 r4 hZ H locs cells slots ls hW hl c1 c2
  exact lv_lload_n X.1 X.2.1 hd rfl (hl.at hi) (k p e R s m args below meth c Z MC MS X K r1 r2 r3 r4 hZ H locs cells slots ls hW hl c1 c2)
theorem j_lload {i : Nat} {v : Int64} (hd : decode (jbC y) pc = .ok (.lload i, 2)) (hi : al[i]? = some (some (.long v))) (k : J l g y d (pc + 2) al (.long v :: st) h kc ks Q) : J l g y d pc al st h kc ks Q := by
  intro p e R s m args below meth c Z MC MS X K r1 r2 r3 r4 hZ H locs cells slots ls hW hl c1 c2
  exact lv_lload X.1 X.2.1 hd (hl.at hi) (k p e R s m args below meth c Z MC MS X K r1 r2 r3 r4 hZ H locs cells slots ls hW hl c1 c2)
theorem j_aload_n {k4 : Fin 4} {v : Nat} (hd : decode (jbC y) pc = .ok (.aload_n k4, 1)) (hi : al[(k4 : Nat)]? = some (some (.ref v))) (k : J l g y d (pc + 1) al (.ref v :: st) h kc ks Q) : J l g y d pc al st h kc ks Q := by
  intro p e R s m args below meth c Z MC MS X K r1 r2 r3 r4 hZ H locs cells slots ls hW hl c1 c2
  exact lv_aload_n X.1 X.2.1 hd rfl (hl.at hi) (k p e R s m args below meth c Z MC MS X K r1 r2 r3 r4 hZ H locs cells slots ls hW hl c1 c2)
theorem j_aload {i : Nat} {v : Nat} (hd : decode (jbC y) pc = .ok (.aload i, 2)) (hi : al[i]? = some (some (.ref v))) (k : J l g y d (pc + 2) al (.ref v :: st) h kc ks Q) : J l g y d pc al st h kc ks Q := by
  intro p e R s m args below meth c Z MC MS X K r1 r2 r3 r4 hZ H locs cells slots ls hW hl c1 c2
  exact lv_aload X.1 X.2.1 hd (hl.at hi) (k p e R s m args below meth c Z MC MS X K r1 r2 r3 r4 hZ H locs cells slots ls hW hl c1 c2)
theorem j_aload_nN {k4 : Fin 4} (hd : decode (jbC y) pc = .ok (.aload_n k4, 1)) (hi : al[(k4 : Nat)]? = some (some .null)) (k : J l g y d (pc + 1) al (.null :: st) h kc ks Q) : J l g y d pc al st h kc ks Q := by
  intro p e R s m args below meth c Z MC MS X K r1 r2 r3 r4 hZ H locs cells slots ls hW hl c1 c2
  exact lv_aload_nN X.1 X.2.1 hd rfl (hl.at hi) (k p e R s m args below meth c Z MC MS X K r1 r2 r3 r4 hZ H locs cells slots ls hW hl c1 c2)
theorem j_aloadN {i : Nat} (hd : decode (jbC y) pc = .ok (.aload i, 2)) (hi : al[i]? = some (some .null)) (k : J l g y d (pc + 2) al (.null :: st) h kc ks Q) : J l g y d pc al st h kc ks Q := by
  intro p e R s m args below meth c Z MC MS X K r1 r2 r3 r4 hZ H locs cells slots ls hW hl c1 c2
  exact lv_aloadN X.1 X.2.1 hd (hl.at hi) (k p e R s m args below meth c Z MC MS X K r1 r2 r3 r4 hZ H locs cells slots ls hW hl c1 c2)
theorem j_iadd {a b : Int32} (hd : decode (jbC y) pc = .ok (.iadd, 1)) (k : J l g y d (pc + 1) al (.int (a + b) :: st) h kc ks Q) : J l g y d pc al (.int b :: .int a :: st) h kc ks Q := by
  intro p e R s m args below meth c Z MC MS X K r1 r2 r3 r4 hZ H locs cells slots ls hW hl c1 c2
  exact lv_iadd X.1 X.2.1 hd (k p e R s m args below meth c Z MC MS X K r1 r2 r3 r4 hZ H locs cells slots ls hW hl c1 c2)
theorem j_isub {a b : Int32} (hd : decode (jbC y) pc = .ok (.isub, 1)) (k : J l g y d (pc + 1) al (.int (a - b) :: st) h kc ks Q) : J l g y d pc al (.int b :: .int a :: st) h kc ks Q := by
  intro p e R s m args below meth c Z MC MS X K r1 r2 r3 r4 hZ H locs cells slots ls hW hl c1 c2
  exact lv_isub X.1 X.2.1 hd (k p e R s m args below meth c Z MC MS X K r1 r2 r3 r4 hZ H locs cells slots ls hW hl c1 c2)
theorem j_imul {a b : Int32} (hd : decode (jbC y) pc = .ok (.imul, 1)) (k : J l g y d (pc + 1) al (.int (a * b) :: st) h kc ks Q) : J l g y d pc al (.int b :: .int a :: st) h kc ks Q := by
  intro p e R s m args below meth c Z MC MS X K r1 r2 r3 r4 hZ H locs cells slots ls hW hl c1 c2
  exact lv_imul X.1 X.2.1 hd (k p e R s m args below meth c Z MC MS X K r1 r2 r3 r4 hZ H locs cells slots ls hW hl c1 c2)
theorem j_iand {a b : Int32} (hd : decode (jbC y) pc = .ok (.iand, 1)) (k : J l g y d (pc + 1) al (.int (a &&& b) :: st) h kc ks Q) : J l g y d pc al (.int b :: .int a :: st) h kc ks Q := by
  intro p e R s m args below meth c Z MC MS X K r1 r2 r3 r4 hZ H locs cells slots ls hW hl c1 c2
  exact lv_iand X.1 X.2.1 hd (k p e R s m args below meth c Z MC MS X K r1 r2 r3 r4 hZ H locs cells slots ls hW hl c1 c2)
theorem j_ior {a b : Int32} (hd : decode (jbC y) pc = .ok (.ior, 1)) (k : J l g y d (pc + 1) al (.int (a ||| b) :: st) h kc ks Q) : J l g y d pc al (.int b :: .int a :: st) h kc ks Q := by
  intro p e R s m args below meth c Z MC MS X K r1 r2 r3 r4 hZ H locs cells slots ls hW hl c1 c2
  exact lv_ior X.1 X.2.1 hd (k p e R s m args below meth c Z MC MS X K r1 r2 r3 r4 hZ H locs cells slots ls hW hl c1 c2)
theorem j_ixor {a b : Int32} (hd : decode (jbC y) pc = .ok (.ixor, 1)) (k : J l g y d (pc + 1) al (.int (a ^^^ b) :: st) h kc ks Q) : J l g y d pc al (.int b :: .int a :: st) h kc ks Q := by
  intro p e R s m args below meth c Z MC MS X K r1 r2 r3 r4 hZ H locs cells slots ls hW hl c1 c2
  exact lv_ixor X.1 X.2.1 hd (k p e R s m args below meth c Z MC MS X K r1 r2 r3 r4 hZ H locs cells slots ls hW hl c1 c2)
theorem j_idiv {a b : Int32} (hd : decode (jbC y) pc = .ok (.idiv, 1)) (hne : ¬ b = 0) (k : J l g y d (pc + 1) al (.int (a / b) :: st) h kc ks Q) : J l g y d pc al (.int b :: .int a :: st) h kc ks Q := by
  intro p e R s m args below meth c Z MC MS X K r1 r2 r3 r4 hZ H locs cells slots ls hW hl c1 c2
  exact lv_idiv X.1 X.2.1 hd hne (k p e R s m args below meth c Z MC MS X K r1 r2 r3 r4 hZ H locs cells slots ls hW hl c1 c2)
theorem j_irem {a b : Int32} (hd : decode (jbC y) pc = .ok (.irem, 1)) (hne : ¬ b = 0) (k : J l g y d (pc + 1) al (.int (a - a / b * b) :: st) h kc ks Q) : J l g y d pc al (.int b :: .int a :: st) h kc ks Q := by
  intro p e R s m args below meth c Z MC MS X K r1 r2 r3 r4 hZ H locs cells slots ls hW hl c1 c2
  exact lv_irem X.1 X.2.1 hd hne (k p e R s m args below meth c Z MC MS X K r1 r2 r3 r4 hZ H locs cells slots ls hW hl c1 c2)
theorem j_ishl {a b : Int32} (hd : decode (jbC y) pc = .ok (.ishl, 1)) (k : J l g y d (pc + 1) al (.int (a <<< (b &&& 31)) :: st) h kc ks Q) : J l g y d pc al (.int b :: .int a :: st) h kc ks Q := by
  intro p e R s m args below meth c Z MC MS X K r1 r2 r3 r4 hZ H locs cells slots ls hW hl c1 c2
  exact lv_ishl X.1 X.2.1 hd (k p e R s m args below meth c Z MC MS X K r1 r2 r3 r4 hZ H locs cells slots ls hW hl c1 c2)
theorem j_ishr {a b : Int32} (hd : decode (jbC y) pc = .ok (.ishr, 1)) (k : J l g y d (pc + 1) al (.int (a >>> (b &&& 31)) :: st) h kc ks Q) : J l g y d pc al (.int b :: .int a :: st) h kc ks Q := by
  intro p e R s m args below meth c Z MC MS X K r1 r2 r3 r4 hZ H locs cells slots ls hW hl c1 c2
  exact lv_ishr X.1 X.2.1 hd (k p e R s m args below meth c Z MC MS X K r1 r2 r3 r4 hZ H locs cells slots ls hW hl c1 c2)
theorem j_iushr {a b : Int32} (hd : decode (jbC y) pc = .ok (.iushr, 1)) (k : J l g y d (pc + 1) al (.int ((a.toUInt32 >>> (b.toUInt32 &&& Int32.toUInt32 31)).toInt32) :: st) h kc ks Q) : J l g y d pc al (.int b :: .int a :: st) h kc ks Q := by
  intro p e R s m args below meth c Z MC MS X K r1 r2 r3 r4 hZ H locs cells slots ls hW hl c1 c2
  exact lv_iushr X.1 X.2.1 hd rfl (k p e R s m args below meth c Z MC MS X K r1 r2 r3 r4 hZ H locs cells slots ls hW hl c1 c2)
theorem j_ladd {a b : Int64} (hd : decode (jbC y) pc = .ok (.ladd, 1)) (k : J l g y d (pc + 1) al (.long (a + b) :: st) h kc ks Q) : J l g y d pc al (.long b :: .long a :: st) h kc ks Q := by
  intro p e R s m args below meth c Z MC MS X K r1 r2 r3 r4 hZ H locs cells slots ls hW hl c1 c2
  exact lv_ladd X.1 X.2.1 hd (k p e R s m args below meth c Z MC MS X K r1 r2 r3 r4 hZ H locs cells slots ls hW hl c1 c2)
theorem j_lsub {a b : Int64} (hd : decode (jbC y) pc = .ok (.lsub, 1)) (k : J l g y d (pc + 1) al (.long (a - b) :: st) h kc ks Q) : J l g y d pc al (.long b :: .long a :: st) h kc ks Q := by
  intro p e R s m args below meth c Z MC MS X K r1 r2 r3 r4 hZ H locs cells slots ls hW hl c1 c2
  exact lv_lsub X.1 X.2.1 hd (k p e R s m args below meth c Z MC MS X K r1 r2 r3 r4 hZ H locs cells slots ls hW hl c1 c2)
theorem j_lmul {a b : Int64} (hd : decode (jbC y) pc = .ok (.lmul, 1)) (k : J l g y d (pc + 1) al (.long (a * b) :: st) h kc ks Q) : J l g y d pc al (.long b :: .long a :: st) h kc ks Q := by
  intro p e R s m args below meth c Z MC MS X K r1 r2 r3 r4 hZ H locs cells slots ls hW hl c1 c2
  exact lv_lmul X.1 X.2.1 hd (k p e R s m args below meth c Z MC MS X K r1 r2 r3 r4 hZ H locs cells slots ls hW hl c1 c2)
theorem j_land {a b : Int64} (hd : decode (jbC y) pc = .ok (.land, 1)) (k : J l g y d (pc + 1) al (.long (a &&& b) :: st) h kc ks Q) : J l g y d pc al (.long b :: .long a :: st) h kc ks Q := by
  intro p e R s m args below meth c Z MC MS X K r1 r2 r3 r4 hZ H locs cells slots ls hW hl c1 c2
  exact lv_land X.1 X.2.1 hd (k p e R s m args below meth c Z MC MS X K r1 r2 r3 r4 hZ H locs cells slots ls hW hl c1 c2)
theorem j_lor {a b : Int64} (hd : decode (jbC y) pc = .ok (.lor, 1)) (k : J l g y d (pc + 1) al (.long (a ||| b) :: st) h kc ks Q) : J l g y d pc al (.long b :: .long a :: st) h kc ks Q := by
  intro p e R s m args below meth c Z MC MS X K r1 r2 r3 r4 hZ H locs cells slots ls hW hl c1 c2
  exact lv_lor X.1 X.2.1 hd (k p e R s m args below meth c Z MC MS X K r1 r2 r3 r4 hZ H locs cells slots ls hW hl c1 c2)
theorem j_lxor {a b : Int64} (hd : decode (jbC y) pc = .ok (.lxor, 1)) (k : J l g y d (pc + 1) al (.long (a ^^^ b) :: st) h kc ks Q) : J l g y d pc al (.long b :: .long a :: st) h kc ks Q := by
  intro p e R s m args below meth c Z MC MS X K r1 r2 r3 r4 hZ H locs cells slots ls hW hl c1 c2
  exact lv_lxor X.1 X.2.1 hd (k p e R s m args below meth c Z MC MS X K r1 r2 r3 r4 hZ H locs cells slots ls hW hl c1 c2)
theorem j_lshl {a : Int64} {b : Int32} (hd : decode (jbC y) pc = .ok (.lshl, 1)) (k : J l g y d (pc + 1) al (.long (a <<< (b.toInt64 &&& 63)) :: st) h kc ks Q) : J l g y d pc al (.int b :: .long a :: st) h kc ks Q := by
  intro p e R s m args below meth c Z MC MS X K r1 r2 r3 r4 hZ H locs cells slots ls hW hl c1 c2
  exact lv_lshl X.1 X.2.1 hd rfl (k p e R s m args below meth c Z MC MS X K r1 r2 r3 r4 hZ H locs cells slots ls hW hl c1 c2)
theorem j_lshr {a : Int64} {b : Int32} (hd : decode (jbC y) pc = .ok (.lshr, 1)) (k : J l g y d (pc + 1) al (.long (a >>> (b.toInt64 &&& 63)) :: st) h kc ks Q) : J l g y d pc al (.int b :: .long a :: st) h kc ks Q := by
  intro p e R s m args below meth c Z MC MS X K r1 r2 r3 r4 hZ H locs cells slots ls hW hl c1 c2
  exact lv_lshr X.1 X.2.1 hd rfl (k p e R s m args below meth c Z MC MS X K r1 r2 r3 r4 hZ H locs cells slots ls hW hl c1 c2)
theorem j_lcmp {a b : Int64} (hd : decode (jbC y) pc = .ok (.lcmp, 1)) (k : J l g y d (pc + 1) al (.int (lg_cmp a b) :: st) h kc ks Q) : J l g y d pc al (.long b :: .long a :: st) h kc ks Q := by
  intro p e R s m args below meth c Z MC MS X K r1 r2 r3 r4 hZ H locs cells slots ls hW hl c1 c2
  exact W.lcmp X.1 X.2.1 hd (k p e R s m args below meth c Z MC MS X K r1 r2 r3 r4 hZ H locs cells slots ls hW hl c1 c2)
theorem j_i2l {a : Int32} (hd : decode (jbC y) pc = .ok (.i2l, 1)) (k : J l g y d (pc + 1) al (.long a.toInt64 :: st) h kc ks Q) : J l g y d pc al (.int a :: st) h kc ks Q := by
  intro p e R s m args below meth c Z MC MS X K r1 r2 r3 r4 hZ H locs cells slots ls hW hl c1 c2
  exact lv_i2l X.1 X.2.1 hd rfl (k p e R s m args below meth c Z MC MS X K r1 r2 r3 r4 hZ H locs cells slots ls hW hl c1 c2)
theorem j_l2i {a : Int64} (hd : decode (jbC y) pc = .ok (.l2i, 1)) (k : J l g y d (pc + 1) al (.int a.toInt32 :: st) h kc ks Q) : J l g y d pc al (.long a :: st) h kc ks Q := by
  intro p e R s m args below meth c Z MC MS X K r1 r2 r3 r4 hZ H locs cells slots ls hW hl c1 c2
  exact lv_l2i X.1 X.2.1 hd rfl (k p e R s m args below meth c Z MC MS X K r1 r2 r3 r4 hZ H locs cells slots ls hW hl c1 c2)
theorem j_ineg {a : Int32} (hd : decode (jbC y) pc = .ok (.ineg, 1)) (k : J l g y d (pc + 1) al (.int (-a) :: st) h kc ks Q) : J l g y d pc al (.int a :: st) h kc ks Q := by
  intro p e R s m args below meth c Z MC MS X K r1 r2 r3 r4 hZ H locs cells slots ls hW hl c1 c2
  exact lv_ineg X.1 X.2.1 hd (k p e R s m args below meth c Z MC MS X K r1 r2 r3 r4 hZ H locs cells slots ls hW hl c1 c2)
theorem j_dup {v : Value} (hd : decode (jbC y) pc = .ok (.dup, 1)) (hc : v.category = 1) (k : J l g y d (pc + 1) al (v :: v :: st) h kc ks Q) : J l g y d pc al (v :: st) h kc ks Q := by
  intro p e R s m args below meth c Z MC MS X K r1 r2 r3 r4 hZ H locs cells slots ls hW hl c1 c2
  exact lv_dup X.1 X.2.1 hd hc (k p e R s m args below meth c Z MC MS X K r1 r2 r3 r4 hZ H locs cells slots ls hW hl c1 c2)
theorem j_pop {v : Value} (hd : decode (jbC y) pc = .ok (.pop, 1)) (hc : v.category = 1) (k : J l g y d (pc + 1) al st h kc ks Q) : J l g y d pc al (v :: st) h kc ks Q := by
  intro p e R s m args below meth c Z MC MS X K r1 r2 r3 r4 hZ H locs cells slots ls hW hl c1 c2
  exact lv_pop X.1 X.2.1 hd hc (k p e R s m args below meth c Z MC MS X K r1 r2 r3 r4 hZ H locs cells slots ls hW hl c1 c2)
theorem j_dup2 {v w : Value} (hd : decode (jbC y) pc = .ok (.dup2, 1)) (hc : v.category = 1) (hc2 : w.category = 1) (k : J l g y d (pc + 1) al (v :: w :: v :: w :: st) h kc ks Q) : J l g y d pc al (v :: w :: st) h kc ks Q := by
  intro p e R s m args below meth c Z MC MS X K r1 r2 r3 r4 hZ H locs cells slots ls hW hl c1 c2
  exact lv_dup2_11 X.1 X.2.1 hd hc hc2 (k p e R s m args below meth c Z MC MS X K r1 r2 r3 r4 hZ H locs cells slots ls hW hl c1 c2)
theorem j_istore_n {k4 : Fin 4} {v : Int32} (hd : decode (jbC y) pc = .ok (.istore_n k4, 1)) (hi : (k4 : Nat) < jmx y) (k : J l g y d (pc + 1) (jst1 al (k4 : Nat) (.int v)) st h kc ks Q) : J l g y d pc al (.int v :: st) h kc ks Q := by
  intro p e R s m args below meth c Z MC MS X K r1 r2 r3 r4 hZ H locs cells slots ls hW hl c1 c2
  exact lv_istore_n X.1 X.2.1 hd rfl hl hi rfl (fun ls hl => k p e R s m args below meth c Z MC MS X K r1 r2 r3 r4 hZ H locs cells slots ls hW (jls.st1 (ls := ls) hl) c1 c2)
theorem j_istore {i : Nat} {v : Int32} (hd : decode (jbC y) pc = .ok (.istore i, 2)) (hi : i < jmx y) (k : J l g y d (pc + 2) (jst1 al i (.int v)) st h kc ks Q) : J l g y d pc al (.int v :: st) h kc ks Q := by
  intro p e R s m args below meth c Z MC MS X K r1 r2 r3 r4 hZ H locs cells slots ls hW hl c1 c2
  exact lv_istore X.1 X.2.1 hd hl hi rfl (fun ls hl => k p e R s m args below meth c Z MC MS X K r1 r2 r3 r4 hZ H locs cells slots ls hW (jls.st1 (ls := ls) hl) c1 c2)
theorem j_astore_n {k4 : Fin 4} {v : Nat} (hd : decode (jbC y) pc = .ok (.astore_n k4, 1)) (hi : (k4 : Nat) < jmx y) (k : J l g y d (pc + 1) (jst1 al (k4 : Nat) (.ref v)) st h kc ks Q) : J l g y d pc al (.ref v :: st) h kc ks Q := by
  intro p e R s m args below meth c Z MC MS X K r1 r2 r3 r4 hZ H locs cells slots ls hW hl c1 c2
  exact lv_astore_n X.1 X.2.1 hd rfl hl hi rfl (fun ls hl => k p e R s m args below meth c Z MC MS X K r1 r2 r3 r4 hZ H locs cells slots ls hW (jls.st1 (ls := ls) hl) c1 c2)
theorem j_astore {i : Nat} {v : Nat} (hd : decode (jbC y) pc = .ok (.astore i, 2)) (hi : i < jmx y) (k : J l g y d (pc + 2) (jst1 al i (.ref v)) st h kc ks Q) : J l g y d pc al (.ref v :: st) h kc ks Q := by
  intro p e R s m args below meth c Z MC MS X K r1 r2 r3 r4 hZ H locs cells slots ls hW hl c1 c2
  exact lv_astore X.1 X.2.1 hd hl hi rfl (fun ls hl => k p e R s m args below meth c Z MC MS X K r1 r2 r3 r4 hZ H locs cells slots ls hW (jls.st1 (ls := ls) hl) c1 c2)
theorem j_astore_nN {k4 : Fin 4} (hd : decode (jbC y) pc = .ok (.astore_n k4, 1)) (hi : (k4 : Nat) < jmx y) (k : J l g y d (pc + 1) (jst1 al (k4 : Nat) (.null)) st h kc ks Q) : J l g y d pc al (.null :: st) h kc ks Q := by
  intro p e R s m args below meth c Z MC MS X K r1 r2 r3 r4 hZ H locs cells slots ls hW hl c1 c2
  exact lv_astore_nN X.1 X.2.1 hd rfl hl hi rfl (fun ls hl => k p e R s m args below meth c Z MC MS X K r1 r2 r3 r4 hZ H locs cells slots ls hW (jls.st1 (ls := ls) hl) c1 c2)
theorem j_astoreN {i : Nat} (hd : decode (jbC y) pc = .ok (.astore i, 2)) (hi : i < jmx y) (k : J l g y d (pc + 2) (jst1 al i (.null)) st h kc ks Q) : J l g y d pc al (.null :: st) h kc ks Q := by
  intro p e R s m args below meth c Z MC MS X K r1 r2 r3 r4 hZ H locs cells slots ls hW hl c1 c2
  exact lv_astoreN X.1 X.2.1 hd hl hi rfl (fun ls hl => k p e R s m args below meth c Z MC MS X K r1 r2 r3 r4 hZ H locs cells slots ls hW (jls.st1 (ls := ls) hl) c1 c2)
theorem j_lstore_n {k4 : Fin 4} {v : Int64} (hd : decode (jbC y) pc = .ok (.lstore_n k4, 1)) (hi : (k4 : Nat) + 1 < jmx y) (k : J l g y d (pc + 1) (jst2 al (k4 : Nat) (.long v)) st h kc ks Q) : J l g y d pc al (.long v :: st) h kc ks Q := by
  intro p e R s m args below meth c Z MC MS X K r1 r2 r3 r4 hZ H locs cells slots ls hW hl c1 c2
  exact lv_lstore_n X.1 X.2.1 hd rfl hl hi rfl (fun ls hl => k p e R s m args below meth c Z MC MS X K r1 r2 r3 r4 hZ H locs cells slots ls hW (jls.st2 (ls := ls) hl) c1 c2)
theorem j_lstore {i : Nat} {v : Int64} (hd : decode (jbC y) pc = .ok (.lstore i, 2)) (hi : i + 1 < jmx y) (k : J l g y d (pc + 2) (jst2 al i (.long v)) st h kc ks Q) : J l g y d pc al (.long v :: st) h kc ks Q := by
  intro p e R s m args below meth c Z MC MS X K r1 r2 r3 r4 hZ H locs cells slots ls hW hl c1 c2
  exact lv_lstore X.1 X.2.1 hd hl hi rfl (fun ls hl => k p e R s m args below meth c Z MC MS X K r1 r2 r3 r4 hZ H locs cells slots ls hW (jls.st2 (ls := ls) hl) c1 c2)
theorem j_iinc {i : Nat} {n : Int} {v : Int32} (hd : decode (jbC y) pc = .ok (.iinc i n, 3)) (hi : i < jmx y) (hv : al[i]? = some (some (.int v))) (k : J l g y d (pc + 3) (jst1 al i (.int (v + Int32.ofInt n))) st h kc ks Q) : J l g y d pc al st h kc ks Q := by
  intro p e R s m args below meth c Z MC MS X K r1 r2 r3 r4 hZ H locs cells slots ls hW hl c1 c2
  obtain ⟨q, hq⟩ := List.getElem?_of_mem ((jlv_mem al 0 i (.int v)).mpr ⟨Nat.zero_le _, hv⟩)
  exact lv_iinc X.1 X.2.1 hd hl hq rfl hi rfl (fun ls hl => k p e R s m args below meth c Z MC MS X K r1 r2 r3 r4 hZ H locs cells slots ls hW (jls.st1 (ls := ls) hl) c1 c2)
theorem j_if_eq {a : Int32} {off : Int} {tgt : Nat} (hd : decode (jbC y) pc = .ok (.ifCond .eq off, 3)) (ht : (pc : Int) + off = (tgt : Int)) (kt : a = 0 → J l g y d tgt al st h kc ks Q) (kf : ¬ (a = 0) → J l g y d (pc + 3) al st h kc ks Q) : J l g y d pc al (.int a :: st) h kc ks Q := by
  intro p e R s m args below meth c Z MC MS X K r1 r2 r3 r4 hZ H locs cells slots ls hW hl c1 c2
  exact lv_if_eq X.1 X.2.1 hd ht (fun q => kt q p e R s m args below meth c Z MC MS X K r1 r2 r3 r4 hZ H locs cells slots ls hW hl c1 c2) (fun q => kf q p e R s m args below meth c Z MC MS X K r1 r2 r3 r4 hZ H locs cells slots ls hW hl c1 c2)
theorem j_if_ne {a : Int32} {off : Int} {tgt : Nat} (hd : decode (jbC y) pc = .ok (.ifCond .ne off, 3)) (ht : (pc : Int) + off = (tgt : Int)) (kt : ¬ a = 0 → J l g y d tgt al st h kc ks Q) (kf : ¬ (¬ a = 0) → J l g y d (pc + 3) al st h kc ks Q) : J l g y d pc al (.int a :: st) h kc ks Q := by
  intro p e R s m args below meth c Z MC MS X K r1 r2 r3 r4 hZ H locs cells slots ls hW hl c1 c2
  exact lv_if_ne X.1 X.2.1 hd ht (fun q => kt q p e R s m args below meth c Z MC MS X K r1 r2 r3 r4 hZ H locs cells slots ls hW hl c1 c2) (fun q => kf (fun z => z q) p e R s m args below meth c Z MC MS X K r1 r2 r3 r4 hZ H locs cells slots ls hW hl c1 c2)
theorem j_if_lt {a : Int32} {off : Int} {tgt : Nat} (hd : decode (jbC y) pc = .ok (.ifCond .lt off, 3)) (ht : (pc : Int) + off = (tgt : Int)) (kt : a < 0 → J l g y d tgt al st h kc ks Q) (kf : ¬ (a < 0) → J l g y d (pc + 3) al st h kc ks Q) : J l g y d pc al (.int a :: st) h kc ks Q := by
  intro p e R s m args below meth c Z MC MS X K r1 r2 r3 r4 hZ H locs cells slots ls hW hl c1 c2
  exact lv_if_lt X.1 X.2.1 hd ht (fun q => kt q p e R s m args below meth c Z MC MS X K r1 r2 r3 r4 hZ H locs cells slots ls hW hl c1 c2) (fun q => kf q p e R s m args below meth c Z MC MS X K r1 r2 r3 r4 hZ H locs cells slots ls hW hl c1 c2)
theorem j_if_ge {a : Int32} {off : Int} {tgt : Nat} (hd : decode (jbC y) pc = .ok (.ifCond .ge off, 3)) (ht : (pc : Int) + off = (tgt : Int)) (kt : 0 ≤ a → J l g y d tgt al st h kc ks Q) (kf : ¬ (0 ≤ a) → J l g y d (pc + 3) al st h kc ks Q) : J l g y d pc al (.int a :: st) h kc ks Q := by
  intro p e R s m args below meth c Z MC MS X K r1 r2 r3 r4 hZ H locs cells slots ls hW hl c1 c2
  exact lv_if_ge X.1 X.2.1 hd ht (fun q => kt q p e R s m args below meth c Z MC MS X K r1 r2 r3 r4 hZ H locs cells slots ls hW hl c1 c2) (fun q => kf q p e R s m args below meth c Z MC MS X K r1 r2 r3 r4 hZ H locs cells slots ls hW hl c1 c2)
theorem j_if_gt {a : Int32} {off : Int} {tgt : Nat} (hd : decode (jbC y) pc = .ok (.ifCond .gt off, 3)) (ht : (pc : Int) + off = (tgt : Int)) (kt : 0 < a → J l g y d tgt al st h kc ks Q) (kf : ¬ (0 < a) → J l g y d (pc + 3) al st h kc ks Q) : J l g y d pc al (.int a :: st) h kc ks Q := by
  intro p e R s m args below meth c Z MC MS X K r1 r2 r3 r4 hZ H locs cells slots ls hW hl c1 c2
  exact lv_if_gt X.1 X.2.1 hd ht (fun q => kt q p e R s m args below meth c Z MC MS X K r1 r2 r3 r4 hZ H locs cells slots ls hW hl c1 c2) (fun q => kf q p e R s m args below meth c Z MC MS X K r1 r2 r3 r4 hZ H locs cells slots ls hW hl c1 c2)
theorem j_if_le {a : Int32} {off : Int} {tgt : Nat} (hd : decode (jbC y) pc = .ok (.ifCond .le off, 3)) (ht : (pc : Int) + off = (tgt : Int)) (kt : a ≤ 0 → J l g y d tgt al st h kc ks Q) (kf : ¬ (a ≤ 0) → J l g y d (pc + 3) al st h kc ks Q) : J l g y d pc al (.int a :: st) h kc ks Q := by
  intro p e R s m args below meth c Z MC MS X K r1 r2 r3 r4 hZ H locs cells slots ls hW hl c1 c2
  exact lv_if_le X.1 X.2.1 hd ht (fun q => kt q p e R s m args below meth c Z MC MS X K r1 r2 r3 r4 hZ H locs cells slots ls hW hl c1 c2) (fun q => kf q p e R s m args below meth c Z MC MS X K r1 r2 r3 r4 hZ H locs cells slots ls hW hl c1 c2)
theorem j_icmp_eq {a b : Int32} {off : Int} {tgt : Nat} (hd : decode (jbC y) pc = .ok (.if_icmp .eq off, 3)) (ht : (pc : Int) + off = (tgt : Int)) (kt : a = b → J l g y d tgt al st h kc ks Q) (kf : ¬ (a = b) → J l g y d (pc + 3) al st h kc ks Q) : J l g y d pc al (.int b :: .int a :: st) h kc ks Q := by
  intro p e R s m args below meth c Z MC MS X K r1 r2 r3 r4 hZ H locs cells slots ls hW hl c1 c2
  exact lv_icmp_eq X.1 X.2.1 hd ht (fun q => kt q p e R s m args below meth c Z MC MS X K r1 r2 r3 r4 hZ H locs cells slots ls hW hl c1 c2) (fun q => kf q p e R s m args below meth c Z MC MS X K r1 r2 r3 r4 hZ H locs cells slots ls hW hl c1 c2)
theorem j_icmp_ne {a b : Int32} {off : Int} {tgt : Nat} (hd : decode (jbC y) pc = .ok (.if_icmp .ne off, 3)) (ht : (pc : Int) + off = (tgt : Int)) (kt : ¬ a = b → J l g y d tgt al st h kc ks Q) (kf : ¬ (¬ a = b) → J l g y d (pc + 3) al st h kc ks Q) : J l g y d pc al (.int b :: .int a :: st) h kc ks Q := by
  intro p e R s m args below meth c Z MC MS X K r1 r2 r3 r4 hZ H locs cells slots ls hW hl c1 c2
  exact lv_icmp_ne X.1 X.2.1 hd ht (fun q => kt q p e R s m args below meth c Z MC MS X K r1 r2 r3 r4 hZ H locs cells slots ls hW hl c1 c2) (fun q => kf (fun z => z q) p e R s m args below meth c Z MC MS X K r1 r2 r3 r4 hZ H locs cells slots ls hW hl c1 c2)
theorem j_icmp_lt {a b : Int32} {off : Int} {tgt : Nat} (hd : decode (jbC y) pc = .ok (.if_icmp .lt off, 3)) (ht : (pc : Int) + off = (tgt : Int)) (kt : a < b → J l g y d tgt al st h kc ks Q) (kf : ¬ (a < b) → J l g y d (pc + 3) al st h kc ks Q) : J l g y d pc al (.int b :: .int a :: st) h kc ks Q := by
  intro p e R s m args below meth c Z MC MS X K r1 r2 r3 r4 hZ H locs cells slots ls hW hl c1 c2
  exact lv_icmp_lt X.1 X.2.1 hd ht (fun q => kt q p e R s m args below meth c Z MC MS X K r1 r2 r3 r4 hZ H locs cells slots ls hW hl c1 c2) (fun q => kf q p e R s m args below meth c Z MC MS X K r1 r2 r3 r4 hZ H locs cells slots ls hW hl c1 c2)
theorem j_icmp_ge {a b : Int32} {off : Int} {tgt : Nat} (hd : decode (jbC y) pc = .ok (.if_icmp .ge off, 3)) (ht : (pc : Int) + off = (tgt : Int)) (kt : b ≤ a → J l g y d tgt al st h kc ks Q) (kf : ¬ (b ≤ a) → J l g y d (pc + 3) al st h kc ks Q) : J l g y d pc al (.int b :: .int a :: st) h kc ks Q := by
  intro p e R s m args below meth c Z MC MS X K r1 r2 r3 r4 hZ H locs cells slots ls hW hl c1 c2
  exact lv_icmp_ge X.1 X.2.1 hd ht (fun q => kt q p e R s m args below meth c Z MC MS X K r1 r2 r3 r4 hZ H locs cells slots ls hW hl c1 c2) (fun q => kf q p e R s m args below meth c Z MC MS X K r1 r2 r3 r4 hZ H locs cells slots ls hW hl c1 c2)
theorem j_icmp_gt {a b : Int32} {off : Int} {tgt : Nat} (hd : decode (jbC y) pc = .ok (.if_icmp .gt off, 3)) (ht : (pc : Int) + off = (tgt : Int)) (kt : b < a → J l g y d tgt al st h kc ks Q) (kf : ¬ (b < a) → J l g y d (pc + 3) al st h kc ks Q) : J l g y d pc al (.int b :: .int a :: st) h kc ks Q := by
  intro p e R s m args below meth c Z MC MS X K r1 r2 r3 r4 hZ H locs cells slots ls hW hl c1 c2
  exact lv_icmp_gt X.1 X.2.1 hd ht (fun q => kt q p e R s m args below meth c Z MC MS X K r1 r2 r3 r4 hZ H locs cells slots ls hW hl c1 c2) (fun q => kf q p e R s m args below meth c Z MC MS X K r1 r2 r3 r4 hZ H locs cells slots ls hW hl c1 c2)
theorem j_icmp_le {a b : Int32} {off : Int} {tgt : Nat} (hd : decode (jbC y) pc = .ok (.if_icmp .le off, 3)) (ht : (pc : Int) + off = (tgt : Int)) (kt : a ≤ b → J l g y d tgt al st h kc ks Q) (kf : ¬ (a ≤ b) → J l g y d (pc + 3) al st h kc ks Q) : J l g y d pc al (.int b :: .int a :: st) h kc ks Q := by
  intro p e R s m args below meth c Z MC MS X K r1 r2 r3 r4 hZ H locs cells slots ls hW hl c1 c2
  exact lv_icmp_le X.1 X.2.1 hd ht (fun q => kt q p e R s m args below meth c Z MC MS X K r1 r2 r3 r4 hZ H locs cells slots ls hW hl c1 c2) (fun q => kf q p e R s m args below meth c Z MC MS X K r1 r2 r3 r4 hZ H locs cells slots ls hW hl c1 c2)
theorem j_ifnonnull {v : Nat} {off : Int} {tgt : Nat} (hd : decode (jbC y) pc = .ok (.ifnonnull off, 3)) (ht : (pc : Int) + off = (tgt : Int)) (k : J l g y d tgt al st h kc ks Q) : J l g y d pc al (.ref v :: st) h kc ks Q := by
  intro p e R s m args below meth c Z MC MS X K r1 r2 r3 r4 hZ H locs cells slots ls hW hl c1 c2
  exact lv_ifnonnull X.1 X.2.1 hd ht (k p e R s m args below meth c Z MC MS X K r1 r2 r3 r4 hZ H locs cells slots ls hW hl c1 c2)
theorem j_ifnullN {off : Int} {tgt : Nat} (hd : decode (jbC y) pc = .ok (.ifnull off, 3)) (ht : (pc : Int) + off = (tgt : Int)) (k : J l g y d tgt al st h kc ks Q) : J l g y d pc al (.null :: st) h kc ks Q := by
  intro p e R s m args below meth c Z MC MS X K r1 r2 r3 r4 hZ H locs cells slots ls hW hl c1 c2
  exact lv_ifnullN X.1 X.2.1 hd ht (k p e R s m args below meth c Z MC MS X K r1 r2 r3 r4 hZ H locs cells slots ls hW hl c1 c2)
theorem j_ifnull {v : Nat} {off : Int} (hd : decode (jbC y) pc = .ok (.ifnull off, 3)) (k : J l g y d (pc + 3) al st h kc ks Q) : J l g y d pc al (.ref v :: st) h kc ks Q := by
  intro p e R s m args below meth c Z MC MS X K r1 r2 r3 r4 hZ H locs cells slots ls hW hl c1 c2
  exact lv_ifnull X.1 X.2.1 hd (k p e R s m args below meth c Z MC MS X K r1 r2 r3 r4 hZ H locs cells slots ls hW hl c1 c2)
theorem j_ifnonnullN {off : Int} (hd : decode (jbC y) pc = .ok (.ifnonnull off, 3)) (k : J l g y d (pc + 3) al st h kc ks Q) : J l g y d pc al (.null :: st) h kc ks Q := by
  intro p e R s m args below meth c Z MC MS X K r1 r2 r3 r4 hZ H locs cells slots ls hW hl c1 c2
  exact lv_ifnonnullN X.1 X.2.1 hd (k p e R s m args below meth c Z MC MS X K r1 r2 r3 r4 hZ H locs cells slots ls hW hl c1 c2)
theorem j_goto {off : Int} {tgt : Nat} (hd : decode (jbC y) pc = .ok (.goto off, 3)) (ht : (pc : Int) + off = (tgt : Int)) (k : J l g y d tgt al st h kc ks Q) : J l g y d pc al st h kc ks Q := by
  intro p e R s m args below meth c Z MC MS X K r1 r2 r3 r4 hZ H locs cells slots ls hW hl c1 c2
  exact lv_goto X.1 X.2.1 hd ht (k p e R s m args below meth c Z MC MS X K r1 r2 r3 r4 hZ H locs cells slots ls hW hl c1 c2)
theorem j_tableOut {dflt lo hi : Int} {offs : Array Int} {len : Nat} {a : Int32} {tgt : Nat} (hd : decode (jbC y) pc = .ok (.tableswitch dflt lo hi offs, len)) (h1 : a.toInt < lo ∨ hi < a.toInt) (ht : (pc : Int) + dflt = (tgt : Int)) (k : J l g y d tgt al st h kc ks Q) : J l g y d pc al (.int a :: st) h kc ks Q := by
  intro p e R s m args below meth c Z MC MS X K r1 r2 r3 r4 hZ H locs cells slots ls hW hl c1 c2
  exact lv_tableOut X.1 X.2.1 hd h1 ht (k p e R s m args below meth c Z MC MS X K r1 r2 r3 r4 hZ H locs cells slots ls hW hl c1 c2)
theorem j_tableIn {dflt lo hi : Int} {offs : Array Int} {len : Nat} {a : Int32} {off : Int} {tgt : Nat} (hd : decode (jbC y) pc = .ok (.tableswitch dflt lo hi offs, len)) (h1 : ¬ a.toInt < lo) (h2 : ¬ hi < a.toInt) (ho : offs[(a.toInt - lo).toNat]? = some off) (ht : (pc : Int) + off = (tgt : Int)) (k : J l g y d tgt al st h kc ks Q) : J l g y d pc al (.int a :: st) h kc ks Q := by
  intro p e R s m args below meth c Z MC MS X K r1 r2 r3 r4 hZ H locs cells slots ls hW hl c1 c2
  exact lv_tableIn X.1 X.2.1 hd h1 h2 ho ht (k p e R s m args below meth c Z MC MS X K r1 r2 r3 r4 hZ H locs cells slots ls hW hl c1 c2)
theorem j_lookup {dflt : Int} {ps : Array (Int × Int)} {len : Nat} {a : Int32} {off : Int} {tgt : Nat} (hd : decode (jbC y) pc = .ok (.lookupswitch dflt ps, len)) (hp : (ps.toList.zip (ps.toList.drop 1)).all (fun (a, next) => a.1 < next.1) = true) (ho : Op.lookupswitch.offset ps.toList dflt a.toInt = off) (ht : (pc : Int) + off = (tgt : Int)) (k : J l g y d tgt al st h kc ks Q) : J l g y d pc al (.int a :: st) h kc ks Q := by
  intro p e R s m args below meth c Z MC MS X K r1 r2 r3 r4 hZ H locs cells slots ls hW hl c1 c2
  exact lv_lookup X.1 X.2.1 hd hp ho ht (k p e R s m args below meth c Z MC MS X K r1 r2 r3 r4 hZ H locs cells slots ls hW hl c1 c2)
theorem j_own {p : Program} {s : State} {m : MethodId} {args : Array Value} {meth : Method} {c : Code} (X : jX p s m args meth c y) {own : Nat} (ho : jcN own = (jyN y).cls) : s.vm.findClass (jcN own) = some m.cls := by rw [ho]; exact X.2.2.2.2.1
theorem j_ldc {own i : Nat} {v : Int32} (ho : jcN own = (jyN y).cls) (hc : (own, i, v) ∈ jeV) (hd : decode (jbC y) pc = .ok (.ldc i, 2)) (k : J l g y d (pc + 2) al (.int v :: st) h kc ks Q) : J l g y d pc al st h kc ks Q := by
  intro p e R s m args below meth c Z MC MS X K r1 r2 r3 r4 hZ H locs cells slots ls hW hl c1 c2
  exact lv_ldc X.1 X.2.1 (j_own X ho) (X.2.2.2.2.2.1 _ (jeV_in _ hc)) hd (k p e R s m args below meth c Z MC MS X K r1 r2 r3 r4 hZ H locs cells slots ls hW hl c1 c2)
theorem j_ldcw {own i : Nat} {v : Int32} (ho : jcN own = (jyN y).cls) (hc : (own, i, v) ∈ jeV) (hd : decode (jbC y) pc = .ok (.ldc_w i, 3)) (k : J l g y d (pc + 3) al (.int v :: st) h kc ks Q) : J l g y d pc al st h kc ks Q := by
  intro p e R s m args below meth c Z MC MS X K r1 r2 r3 r4 hZ H locs cells slots ls hW hl c1 c2
  exact lv_ldcw X.1 X.2.1 (j_own X ho) (X.2.2.2.2.2.1 _ (jeV_in _ hc)) hd (k p e R s m args below meth c Z MC MS X K r1 r2 r3 r4 hZ H locs cells slots ls hW hl c1 c2)
theorem j_ldc2 {own i : Nat} {v : Int64} (ho : jcN own = (jyN y).cls) (hc : (own, i, v) ∈ jeW) (hd : decode (jbC y) pc = .ok (.ldc2_w i, 3)) (k : J l g y d (pc + 3) al (.long v :: st) h kc ks Q) : J l g y d pc al st h kc ks Q := by
  intro p e R s m args below meth c Z MC MS X K r1 r2 r3 r4 hZ H locs cells slots ls hW hl c1 c2
  exact lv_ldc2 X.1 X.2.1 (j_own X ho) (X.2.2.2.2.2.1 _ (jeW_in _ hc)) hd (k p e R s m args below meth c Z MC MS X K r1 r2 r3 r4 hZ H locs cells slots ls hW hl c1 c2)
theorem j_ret {v : Option Value} (hv : jrv y pc v) (hq : Q v h) (e0 : st = v.toList) : J l g y d pc al st h kc ks Q := by
  intro p e R s m args below meth c Z MC MS X K r1 r2 r3 r4 hZ H locs cells slots ls hW hl c1 c2
  subst e0
  exact W.widen (by omega) (by omega) (hZ pc ls H locs h v hv hW hq)

theorem jcl_of {ci : Nat} {a : Nat} {fs : List Value} {H : Heap} (hh : jat g a (.inr (ci, fs)) H) : ∃ r : vw_C, jcl[ci]? = some r ∧ t_OB a (g.1.1 ci) r.2.2 (g.1.2 ci) H (vp_V fs) := hh
theorem jF_in {own i ci f : Nat} {r : vw_C} (hm : (own, i, ci, f) ∈ jeF) (hr : jcl[ci]? = some r) : Cond.fieldLink (jcN own) i r.1 (r.2.1 f).2.1 (r.2.1 f).2.2.1 ∈ jtb := by
  have h1 := jeF_in _ hm
  rw [jwF] at h1
  simp only [List.getD_eq_getElem?_getD, hr] at h1
  exact h1
/-- the classes' fields stand in the classes themselves -/
theorem jcl_self {ci : Nat} {r : vw_C} (hr : jcl[ci]? = some r) {f : Nat} (hf : f < r.2.2) : (r.2.1 f).1 = r.1 := by
  match ci, hr with

  | 0, hr => cases hr; revert f; show ∀ {f : Nat}, f < nfX0 → (TX0 f).1 = RX0; intro f hf; revert f; decide +kernel
  | 1, hr => cases hr; revert f; show ∀ {f : Nat}, f < nfX1 → (TX1 f).1 = RX1; intro f hf; revert f; decide +kernel
  | 2, hr => cases hr; revert f; show ∀ {f : Nat}, f < nfX2 → (TX2 f).1 = RX2; intro f hf; revert f; decide +kernel
  | 3, hr => cases hr; revert f; show ∀ {f : Nat}, f < nfX3 → (TX3 f).1 = RX3; intro f hf; revert f; decide +kernel
  | 4, hr => cases hr; revert f; show ∀ {f : Nat}, f < nfX4 → (TX4 f).1 = RX4; intro f hf; revert f; decide +kernel
  | 5, hr => cases hr; revert f; show ∀ {f : Nat}, f < nfX5 → (TX5 f).1 = RX5; intro f hf; revert f; decide +kernel
  | 6, hr => cases hr; revert f; show ∀ {f : Nat}, f < nfX6 → (TX6 f).1 = RX6; intro f hf; revert f; decide +kernel
  | 7, hr => cases hr; revert f; show ∀ {f : Nat}, f < nfX7 → (TX7 f).1 = RX7; intro f hf; revert f; decide +kernel
  | 8, hr => cases hr; revert f; show ∀ {f : Nat}, f < nfX8 → (TX8 f).1 = RX8; intro f hf; revert f; decide +kernel
  | 9, hr => cases hr; revert f; show ∀ {f : Nat}, f < nfX9 → (TX9 f).1 = RX9; intro f hf; revert f; decide +kernel
  | 10, hr => cases hr; revert f; show ∀ {f : Nat}, f < nfX10 → (TX10 f).1 = RX10; intro f hf; revert f; decide +kernel
  | 11, hr => cases hr; revert f; show ∀ {f : Nat}, f < nfX11 → (TX11 f).1 = RX11; intro f hf; revert f; decide +kernel
  | 12, hr => cases hr; revert f; show ∀ {f : Nat}, f < nfX12 → (TX12 f).1 = RX12; intro f hf; revert f; decide +kernel
  | k + 13, hr => simp [jcl] at hr

theorem j_get {own i ci f a : Nat} {fs : List Value} {v : Value} (hd : decode (jbC y) pc = .ok (.getfield i, 3)) (ho : jcN own = (jyN y).cls) (hm : (own, i, ci, f) ∈ jeF) (hc : h[a]? = some (.inr (ci, fs))) (hn : ∀ r, jcl[ci]? = some r → f < r.2.2) (hv : fs[f]? = some v) (k : J l g y d (pc + 3) al (v :: st) h kc ks Q) : J l g y d pc al (.ref (g.2.2 + a) :: st) h kc ks Q := by
  intro p e R s m args below meth c Z MC MS X K r1 r2 r3 r4 hZ H locs cells slots ls hW hl c1 c2
  have hat := hW.1.2 a _ hc
  obtain ⟨r, hr, hob⟩ := jcl_of hat
  obtain ⟨hin, -, -⟩ := jcl_in hr
  exact va_get (ws := [(g.2.2 + a, .inr (ci, fs))]) (C := r.1) (T := r.2.1) (N := r.2.2) (ref := r.1) X.1 X.2.1 X.2.2.2.2.2.1 hin (j_own X ho) K.1 (fun q z hz => by
    match q, hz with
    | 0, hz => cases hz; exact hat
    | n + 1, hz => simp at hz) 0 rfl hr f (hn r hr) (X.2.2.2.2.2.1 _ (jF_in hm hr)) (fun x hx => by rw [jcl_self hr (hn r hr)] at hx; exact hx) hv hd (k p e R s m args below meth c Z MC MS X K r1 r2 r3 r4 hZ H locs cells slots ls hW hl c1 c2)


theorem jW_set {s : State} {H H1 : Heap} {locs locs1 : List Loc} {a : Nat} {c c1 : jC} (hW : jW g s h H locs) (hc : h[a]? = some c) (hs : H1.size = H.size) (hq : ∀ q, q ≠ g.2.2 + a → H1[q]? = H[q]?) (h1 : jat g (g.2.2 + a) c1 H1) (hl : ∀ q ∈ locs1, q ∈ locs ∨ q.base = g.2.2 + a) : jW g s (h.set a c1) H1 locs1 := by
  obtain ⟨⟨w1, w2⟩, w3, w4, w5⟩ := hW
  have ha : a < h.length := (List.getElem?_eq_some_iff.mp hc).1
  refine ⟨⟨by rw [hs, w1, List.length_set], fun k z hz => ?_⟩, fun q hlt => by rw [hq q (by omega)]; exact w3 q hlt, w4, fun q hq => ?_⟩
  · by_cases hk : a = k
    · subst hk
      rw [List.getElem?_set_self ha] at hz
      cases hz
      exact h1
    · rw [List.getElem?_set_ne hk] at hz
      have h2 := w2 k z hz
      have h3 := hq (g.2.2 + k) (by omega)
      cases z with
      | inl x => exact h3.trans h2
      | inr o =>
        obtain ⟨r, e1, e2⟩ := h2
        exact ⟨r, e1, e2.kept h3⟩
  · rcases hl q hq with h2 | h2
    · exact w5 q h2
    · rw [h2]; omega
theorem j_put {own i ci f a : Nat} {fs : List Value} {v : Value} {r : vw_C} (hd : decode (jbC y) pc = .ok (.putfield i, 3)) (ho : jcN own = (jyN y).cls) (hm : (own, i, ci, f) ∈ jeF) (hc : h[a]? = some (.inr (ci, fs))) (hr : jcl[ci]? = some r) (hn : f < r.2.2) (hfl : f < fs.length) (hfin : (r.2.1 f).2.2.2 = false) {ty : FieldType} (hty : parseFieldDescriptor (r.2.1 f).2.2.1 = some ty) (hnr : narrow ty v = v) (hft : fits ty v = true) (k : J l g y d (pc + 3) al st (h.set a (.inr (ci, fs.set f v))) kc ks Q) : J l g y d pc al (v :: .ref (g.2.2 + a) :: st) h kc ks Q := by
  intro p e R s m args below meth c Z MC MS X K r1 r2 r3 r4 hZ H locs cells slots ls hW hl c1 c2
  have hat := hW.1.2 a _ hc
  obtain ⟨r', hr', cell, q1, q2, q3, q4⟩ := jcl_of hat
  cases hr'.symm.trans hr
  obtain ⟨hin, ⟨ty0, hty0⟩, hnm⟩ := jcl_in hr
  have hts := X.2.2.2.2.2.1
  have hap := va_apart (own := r.1) hts hin ty0 hty0 hnm K.1 hr
  obtain ⟨hS, hfc, kC, hkC, hkind⟩ := K.1.1 ci _ hr
  obtain ⟨cf, kf, fi, fd, hi, hsl⟩ := hS f hn
  have hlay := hts _ (hin _ (u_in_lay hn))
  unfold u_lay at hlay
  rw [if_neg (by rw [hfin]; decide)] at hlay
  have hst := (u_facts hfc hkC (u_lays hts hin hn) hi).1
  have h6 := u_store hfc hkC hkind hlay hi hty hnr hft
  refine W.putK X.1 X.2.1 (f := fd) ⟨j_own X ho, hts _ (jF_in hm hr), ⟨_, _, _, by rw [← jcl_self hr hn]; exact hi⟩, hst⟩ (by rw [q2]; exact h6) q1 q3 (by rw [hsl]; exact k2_hasslot (q4 f hn)) rfl rfl hd fun H' e1 e2 e3 => ?_
  rw [hsl] at e1 ⊢
  refine k p e R s m args below meth c Z MC MS X K r1 r2 r3 r4 hZ H' _ cells slots ls (jW_set hW hc e2 e3 ⟨r, hr, t_OB.to (V := updV (vp_V fs) f v) ⟨_, e1, q2, q3, t_set q4 hap hn v⟩ (fun j _ => vp_updV_set hfl v j)⟩ (fun q hq => ?_)) hl c1 c2
  rcases List.mem_append.mp hq with h | h
  · exact Or.inl h
  · right; rw [List.mem_singleton.mp h]
theorem j_putF {own i ci f a : Nat} {fs : List Value} {v : Value} {r : vw_C} (hd : decode (jbC y) pc = .ok (.putfield i, 3)) (ho : jcN own = (jyN y).cls) (hm : (own, i, ci, f) ∈ jeF) (hc : h[a]? = some (.inr (ci, fs))) (hr : jcl[ci]? = some r) (hn : f < r.2.2) (hfl : f < fs.length) (hfin : (r.2.1 f).2.2.2 = true) (hin2 : (jyN y).name = "<init>") (hdecl : r.1 = jcN own) {ty : FieldType} (hty : parseFieldDescriptor (r.2.1 f).2.2.1 = some ty) (hnr : narrow ty v = v) (hft : fits ty v = true) (k : J l g y d (pc + 3) al st (h.set a (.inr (ci, fs.set f v))) kc ks Q) : J l g y d pc al (v :: .ref (g.2.2 + a) :: st) h kc ks Q := by
  intro p e R s m args below meth c Z MC MS X K r1 r2 r3 r4 hZ H locs cells slots ls hW hl c1 c2
  have hat := hW.1.2 a _ hc
  obtain ⟨r', hr', cell, q1, q2, q3, q4⟩ := jcl_of hat
  cases hr'.symm.trans hr
  obtain ⟨hin, ⟨ty0, hty0⟩, hnm⟩ := jcl_in hr
  have hts := X.2.2.2.2.2.1
  have hap := va_apart (own := r.1) hts hin ty0 hty0 hnm K.1 hr
  obtain ⟨hS, hfc, kC, hkC, hkind⟩ := K.1.1 ci _ hr
  obtain ⟨cf, kf, fi, fd, hi, hsl⟩ := hS f hn
  have hlay := hts _ (hin _ (u_in_lay hn))
  unfold u_lay at hlay
  rw [if_pos hfin] at hlay
  have hst := (u_facts hfc hkC (u_lays hts hin hn) hi).1
  have hcf : m.cls = cf := by
    obtain ⟨_, _, c', _, _, _, -, -, hf', -, -, -, hown2, -⟩ := Cond.laysFinal_spec hlay
    have e1 : c' = cf := by have := hi.symm.trans hf'; simp at this; exact this.1.symm
    rw [jcl_self hr hn, hdecl] at hown2
    rw [← e1]; exact Option.some.inj ((j_own X ho).symm.trans hown2)
  have h6 := u_fits hfc hkC hkind (Or.inr hlay) hi hty hnr hft
  refine W.putFinK X.1 X.2.1 (j_own X ho) (hts _ (jF_in hm hr)) (by rw [← jcl_self hr hn]; exact hi) hst hcf (by rw [X.2.2.2.2.2.2.2]; exact hin2) (by rw [q2]; exact h6) q1 q3 (by rw [hsl]; exact k2_hasslot (q4 f hn)) rfl rfl hd fun H' e1 e2 e3 => ?_
  rw [hsl] at e1 ⊢
  refine k p e R s m args below meth c Z MC MS X K r1 r2 r3 r4 hZ H' _ cells slots ls (jW_set hW hc e2 e3 ⟨r, hr, t_OB.to (V := updV (vp_V fs) f v) ⟨_, e1, q2, q3, t_set q4 hap hn v⟩ (fun j _ => vp_updV_set hfl v j)⟩ (fun q hq => ?_)) hl c1 c2
  rcases List.mem_append.mp hq with h | h
  · exact Or.inl h
  · right; rw [List.mem_singleton.mp h]


theorem j_iald {a n : Nat} {f : Nat → Int32} {i : Int32} (hd : decode (jbC y) pc = .ok (.iaload, 1)) (hc : h[a]? = some (.inl (0, n, f))) (hi : vp_in i n) (k : J l g y d (pc + 1) al (.int (f i.toNatClampNeg) :: st) h kc ks Q) : J l g y d pc al (.int i :: .ref (g.2.2 + a) :: st) h kc ks Q := by
  intro p e R s m args below meth c Z MC MS X K r1 r2 r3 r4 hZ H locs cells slots ls hW hl c1 c2
  have hat : H[g.2.2 + a]? = some (vp_cell (g.2.1 0) (n, .inl f)) := hW.1.2 a _ hc
  exact va_iald (D := g.1) (cl := jcl) (tys := jtys g) (ws := [(g.2.2 + a, .inl (g.2.1 0, n, .inl f))]) X.1 X.2.1 K.1 (fun q z hz => by
    match q, hz with
    | 0, hz => cases hz; exact hat
    | n + 1, hz => simp at hz) 0 0 rfl rfl hi hd (k p e R s m args below meth c Z MC MS X K r1 r2 r3 r4 hZ H locs cells slots ls hW hl c1 c2)


theorem j_zald {a n : Nat} {f : Nat → Int32} {i : Int32} (hd : decode (jbC y) pc = .ok (.baload, 1)) (hc : h[a]? = some (.inl (1, n, f))) (hi : vp_in i n) (k : J l g y d (pc + 1) al (.int (f i.toNatClampNeg) :: st) h kc ks Q) : J l g y d pc al (.int i :: .ref (g.2.2 + a) :: st) h kc ks Q := by
  intro p e R s m args below meth c Z MC MS X K r1 r2 r3 r4 hZ H locs cells slots ls hW hl c1 c2
  have hat : H[g.2.2 + a]? = some (vp_cell (g.2.1 1) (n, .inl f)) := hW.1.2 a _ hc
  exact va_zald (D := g.1) (cl := jcl) (tys := jtys g) (ws := [(g.2.2 + a, .inl (g.2.1 1, n, .inl f))]) X.1 X.2.1 K.1 (fun q z hz => by
    match q, hz with
    | 0, hz => cases hz; exact hat
    | n + 1, hz => simp at hz) 0 1 rfl rfl hi hd (k p e R s m args below meth c Z MC MS X K r1 r2 r3 r4 hZ H locs cells slots ls hW hl c1 c2)


theorem j_iast {a n : Nat} {f : Nat → Int32} {i v : Int32} (hd : decode (jbC y) pc = .ok (.iastore, 1)) (hc : h[a]? = some (.inl (0, n, f))) (hi : vp_in i n) (k : J l g y d (pc + 1) al st (h.set a (.inl (0, n, upd f i.toNatClampNeg v))) kc ks Q) : J l g y d pc al (.int v :: .int i :: .ref (g.2.2 + a) :: st) h kc ks Q := by
  intro p e_ R s m args below meth c Z MC MS X K r1 r2 r3 r4 hZ H locs cells slots ls hW hl c1 c2
  have hat : H[g.2.2 + a]? = some (vp_cell (g.2.1 0) (n, .inl f)) := hW.1.2 a _ hc
  refine W.iast X.1 X.2.1 hat ((K.1.2 0 _ rfl).1 n (fun j => .int (f j))) (fun q => by cases q) (by show ¬ (i < 0 ∨ (arrV _ _ _).slots.size ≤ _); rw [arrV_size]; exact hi) rfl rfl hd fun H1 e z oq => ?_
  refine k p e_ R s m args below meth c Z MC MS X K r1 r2 r3 r4 hZ H1 _ cells slots ls (jW_set hW hc z oq ?_ (fun q hq => ?_)) hl c1 c2
  · show H1[g.2.2 + a]? = some (vp_cell _ _)
    rw [e, vp_cell_i, vp_cell_i, arrV_store]
    congr 2
    funext q
    by_cases hq : q = i.toNatClampNeg
    · subst hq
      simp [updV, upd, vp_nar]
      try rfl
    · simp [updV, upd, hq]
  · rcases List.mem_append.mp hq with h | h
    · exact Or.inl h
    · right; rw [List.mem_singleton.mp h]


theorem j_zast {a n : Nat} {f : Nat → Int32} {i v : Int32} (hd : decode (jbC y) pc = .ok (.bastore, 1)) (hc : h[a]? = some (.inl (1, n, f))) (hi : vp_in i n) (k : J l g y d (pc + 1) al st (h.set a (.inl (1, n, upd f i.toNatClampNeg (vp_nar .boolean v)))) kc ks Q) : J l g y d pc al (.int v :: .int i :: .ref (g.2.2 + a) :: st) h kc ks Q := by
  intro p e_ R s m args below meth c Z MC MS X K r1 r2 r3 r4 hZ H locs cells slots ls hW hl c1 c2
  have hat : H[g.2.2 + a]? = some (vp_cell (g.2.1 1) (n, .inl f)) := hW.1.2 a _ hc
  refine W.zast X.1 X.2.1 hat ((K.1.2 1 _ rfl).1 n (fun j => .int (f j))) (fun q => by cases q) (by show ¬ (i < 0 ∨ (arrV _ _ _).slots.size ≤ _); rw [arrV_size]; exact hi) rfl rfl hd fun H1 e z oq => ?_
  refine k p e_ R s m args below meth c Z MC MS X K r1 r2 r3 r4 hZ H1 _ cells slots ls (jW_set hW hc z oq ?_ (fun q hq => ?_)) hl c1 c2
  · show H1[g.2.2 + a]? = some (vp_cell _ _)
    rw [e, vp_cell_i, vp_cell_i, arrV_store]
    congr 2
    funext q
    by_cases hq : q = i.toNatClampNeg
    · subst hq
      simp [updV, upd, vp_nar]
      try rfl
    · simp [updV, upd, hq]
  · rcases List.mem_append.mp hq with h | h
    · exact Or.inl h
    · right; rw [List.mem_singleton.mp h]


theorem j_alen {a n t : Nat} {f : Nat → Int32} (hd : decode (jbC y) pc = .ok (.arraylength, 1)) (ht : t = 0 ∨ t = 1) (hc : h[a]? = some (.inl (t, n, f))) (k : J l g y d (pc + 1) al (.int (Int32.ofNat n) :: st) h kc ks Q) : J l g y d pc al (.ref (g.2.2 + a) :: st) h kc ks Q := by
  intro p e R s m args below meth c Z MC MS X K r1 r2 r3 r4 hZ H locs cells slots ls hW hl c1 c2
  have hat : H[g.2.2 + a]? = some (vp_cell (g.2.1 t) (n, .inl f)) := hW.1.2 a _ hc
  rcases ht with rfl | rfl
  · exact va_alen (D := g.1) (cl := jcl) (tys := jtys g) (ws := [(g.2.2 + a, .inl (g.2.1 0, n, .inl f))]) X.1 X.2.1 K.1 (fun q z hz => by
      match q, hz with
      | 0, hz => cases hz; exact hat
      | n + 1, hz => simp at hz) 0 0 rfl rfl rfl hd (k p e R s m args below meth c Z MC MS X K r1 r2 r3 r4 hZ H locs cells slots ls hW hl c1 c2)
  · exact va_alen (D := g.1) (cl := jcl) (tys := jtys g) (ws := [(g.2.2 + a, .inl (g.2.1 1, n, .inl f))]) X.1 X.2.1 K.1 (fun q z hz => by
      match q, hz with
      | 0, hz => cases hz; exact hat
      | n + 1, hz => simp at hz) 0 1 rfl rfl rfl hd (k p e R s m args below meth c Z MC MS X K r1 r2 r3 r4 hZ H locs cells slots ls hW hl c1 c2)

end JR
end
