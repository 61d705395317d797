section
/-! the checker's step, instruction by instruction -/
theorem nn {α : Type} {L : α} {Z : Prop} (h : (none : Option α) = some L) : Z := by cases h
theorem bif_some {α : Type} {b : Bool} {o : Option α} {L : α} (h : (bif b then o else none) = some L) : b = true ∧ o = some L := by
  cases b with
  | false => cases h
  | true => exact ⟨rfl, h⟩
theorem one_some {pc kc ks : Nat} {S : Option aS} {L : List (Nat × aS × Nat × Nat)} (h : one pc S kc ks = some L) : ∃ S', S = some S' ∧ L = [(pc, S', kc, ks)] := by
  cases S with
  | none => cases h
  | some S => exact ⟨S, rfl, (Option.some.inj h).symm⟩
theorem oneE_some {k pc kc ks : Nat} {e : Option aE} {env : List aE} {fc : List aF} {loc : List (Option aV)} {stk : List aV} {ov : List aO} {pr : List Nat} {L : List (Nat × aS × Nat × Nat)} (h : oneE k pc e env fc loc stk ov pr kc ks = some L) : ∃ e', e = some e' ∧ L = [(pc, (env ++ [e'], fc, loc, (k, env.length, 0) :: stk, ov, pr), kc, ks)] := by
  cases e with
  | none => cases h
  | some e => exact ⟨e, rfl, (Option.some.inj h).symm⟩
def ldk (k : Nat) (v : aV) : Bool := match k with
  | 0 => Nat.beq v.1 0
  | 1 => Nat.beq v.1 1
  | _ => Nat.ble 2 v.1
theorem aLoad_some {k i pc kc ks : Nat} {env : List aE} {fc : List aF} {loc : List (Option aV)} {stk : List aV} {ov : List aO} {pr : List Nat} {L : List (Nat × aS × Nat × Nat)} (h : aLoad k i pc env fc loc stk ov pr kc ks = some L) : ∃ v, loc[i]? = some (some v) ∧ ldk k v = true ∧ L = [(pc, (env, fc, loc, v :: stk, ov, pr), kc, ks)] := by
  rw [aLoad] at h
  split at h
  · rename_i v hv
    obtain ⟨h1, h2⟩ := bif_some h
    refine ⟨v, hv, ?_, (Option.some.inj h2).symm⟩
    match k, h1 with
    | 0, h1 => exact h1
    | 1, h1 => exact h1
    | m + 2, h1 => exact h1
  · cases h
theorem blt_lt {a b : Nat} (h : Nat.blt a b = true) : a < b := Nat.le_of_ble_eq_true h
theorem nt_f {b : Bool} (h : (!b) = true) : b = false := by cases b with
  | false => rfl
  | true => cases h
section IN
variable {TT : List (List aCT)} {g : jG} {EI : aB → jH → Prop} {W P : List aR} {bk0 : aB} {h0 : jH} {ev : List Int} {y : Nat} {vs : List Int} {bk : aB} {al : List (Option Value)} {st : List Value} {h : jH} {env : List aE} {fc : List aF} {loc : List (Option aV)} {stk : List aV} {ov : List aO} {pr : List Nat} {l : Launch} {d pc kc ks : Nat} {Q : Option Value → jH → Prop} {KT : List aK} {KI : List (List Nat)} {own n len : Nat} {L : List (Nat × aS × Nat × Nat)}
/-- what a method's checker stands on -/
def mOK (TT : List (List aCT)) (g : jG) (EI : aB → jH → Prop) (P : List aR) (KT : List aK) (l : Launch) (y own n : Nat) : Prop := tyCl TT = true ∧ tySg TT = true ∧ eiOK TT g EI P ∧ jcN own = (jyN y).cls ∧ ∀ (k : Nat) (K : aK), KT[k]? = some K → k < n → kOK TT g EI l K
theorem ok_iconst {z : Int} (hM : mOK TT g EI P KT l y own n) (hd : decode (jbC y) pc = .ok (.iconst z, len)) (hS : aStep (TT, KT, KI, W, P, y, own, d, n) pc kc ks (.iconst z) len env fc loc stk ov pr = some L) (hp : PT TT g EI W bk0 h0 ev y vs bk al st h (env, fc, loc, stk, ov, pr)) (k : GoA TT g EI W bk0 h0 ev y l d Q L) : J l g y d pc al st h kc ks Q := by
  obtain ⟨hb, h1⟩ := bif_some hS
  simp only [Bool.and_eq_true, decide_eq_true_eq] at hb
  obtain ⟨⟨l0, c1⟩, c2⟩ := hb
  have hlen := Nat.eq_of_beq_eq_true l0
  subst hlen
  obtain ⟨e, he, rfl⟩ := oneE_some h1
  cases he
  exact st_iconst hd c1 c2 hp (k _ List.mem_cons_self)
theorem ok_bipush {z : Int} (hM : mOK TT g EI P KT l y own n) (hd : decode (jbC y) pc = .ok (.bipush z, len)) (hS : aStep (TT, KT, KI, W, P, y, own, d, n) pc kc ks (.bipush z) len env fc loc stk ov pr = some L) (hp : PT TT g EI W bk0 h0 ev y vs bk al st h (env, fc, loc, stk, ov, pr)) (k : GoA TT g EI W bk0 h0 ev y l d Q L) : J l g y d pc al st h kc ks Q := by
  obtain ⟨hb, h1⟩ := bif_some hS
  simp only [Bool.and_eq_true, decide_eq_true_eq] at hb
  obtain ⟨⟨l0, c1⟩, c2⟩ := hb
  have hlen := Nat.eq_of_beq_eq_true l0
  subst hlen
  obtain ⟨e, he, rfl⟩ := oneE_some h1
  cases he
  exact st_bipush hd c1 c2 hp (k _ List.mem_cons_self)
theorem ok_sipush {z : Int} (hM : mOK TT g EI P KT l y own n) (hd : decode (jbC y) pc = .ok (.sipush z, len)) (hS : aStep (TT, KT, KI, W, P, y, own, d, n) pc kc ks (.sipush z) len env fc loc stk ov pr = some L) (hp : PT TT g EI W bk0 h0 ev y vs bk al st h (env, fc, loc, stk, ov, pr)) (k : GoA TT g EI W bk0 h0 ev y l d Q L) : J l g y d pc al st h kc ks Q := by
  obtain ⟨hb, h1⟩ := bif_some hS
  simp only [Bool.and_eq_true, decide_eq_true_eq] at hb
  obtain ⟨⟨l0, c1⟩, c2⟩ := hb
  have hlen := Nat.eq_of_beq_eq_true l0
  subst hlen
  obtain ⟨e, he, rfl⟩ := oneE_some h1
  cases he
  exact st_sipush hd c1 c2 hp (k _ List.mem_cons_self)
theorem ok_lconst {z : Fin 2} (hM : mOK TT g EI P KT l y own n) (hd : decode (jbC y) pc = .ok (.lconst z, len)) (hS : aStep (TT, KT, KI, W, P, y, own, d, n) pc kc ks (.lconst z) len env fc loc stk ov pr = some L) (hp : PT TT g EI W bk0 h0 ev y vs bk al st h (env, fc, loc, stk, ov, pr)) (k : GoA TT g EI W bk0 h0 ev y l d Q L) : J l g y d pc al st h kc ks Q := by
  obtain ⟨hb, h1⟩ := bif_some hS
  have l0 := hb
  have hlen := Nat.eq_of_beq_eq_true l0
  subst hlen
  obtain ⟨e, he, rfl⟩ := oneE_some h1
  cases he
  exact st_lconst hd hp (k _ List.mem_cons_self)
theorem ok_ldc {j : _} (hM : mOK TT g EI P KT l y own n) (hd : decode (jbC y) pc = .ok (.ldc j, len)) (hS : aStep (TT, KT, KI, W, P, y, own, d, n) pc kc ks (.ldc j) len env fc loc stk ov pr = some L) (hp : PT TT g EI W bk0 h0 ev y vs bk al st h (env, fc, loc, stk, ov, pr)) (k : GoA TT g EI W bk0 h0 ev y l d Q L) : J l g y d pc al st h kc ks Q := by
  obtain ⟨hb, h1⟩ := bif_some hS
  have l0 := hb
  have hlen := Nat.eq_of_beq_eq_true l0
  subst hlen
  split at h1
  · rename_i q hf
    obtain ⟨e, he, rfl⟩ := oneE_some h1
    cases he
    exact st_ldc hM.2.2.2.1 hf hd hp (k _ List.mem_cons_self)
  · cases h1
theorem ok_ldc_w {j : _} (hM : mOK TT g EI P KT l y own n) (hd : decode (jbC y) pc = .ok (.ldc_w j, len)) (hS : aStep (TT, KT, KI, W, P, y, own, d, n) pc kc ks (.ldc_w j) len env fc loc stk ov pr = some L) (hp : PT TT g EI W bk0 h0 ev y vs bk al st h (env, fc, loc, stk, ov, pr)) (k : GoA TT g EI W bk0 h0 ev y l d Q L) : J l g y d pc al st h kc ks Q := by
  obtain ⟨hb, h1⟩ := bif_some hS
  have l0 := hb
  have hlen := Nat.eq_of_beq_eq_true l0
  subst hlen
  split at h1
  · rename_i q hf
    obtain ⟨e, he, rfl⟩ := oneE_some h1
    cases he
    exact st_ldcw hM.2.2.2.1 hf hd hp (k _ List.mem_cons_self)
  · cases h1
theorem ok_ldc2_w {j : _} (hM : mOK TT g EI P KT l y own n) (hd : decode (jbC y) pc = .ok (.ldc2_w j, len)) (hS : aStep (TT, KT, KI, W, P, y, own, d, n) pc kc ks (.ldc2_w j) len env fc loc stk ov pr = some L) (hp : PT TT g EI W bk0 h0 ev y vs bk al st h (env, fc, loc, stk, ov, pr)) (k : GoA TT g EI W bk0 h0 ev y l d Q L) : J l g y d pc al st h kc ks Q := by
  obtain ⟨hb, h1⟩ := bif_some hS
  have l0 := hb
  have hlen := Nat.eq_of_beq_eq_true l0
  subst hlen
  split at h1
  · rename_i q hf
    obtain ⟨e, he, rfl⟩ := oneE_some h1
    cases he
    exact st_ldc2 hM.2.2.2.1 hf hd hp (k _ List.mem_cons_self)
  · cases h1
theorem ok_null (hM : mOK TT g EI P KT l y own n) (hd : decode (jbC y) pc = .ok (.aconst_null, len)) (hS : aStep (TT, KT, KI, W, P, y, own, d, n) pc kc ks (.aconst_null) len env fc loc stk ov pr = some L) (hp : PT TT g EI W bk0 h0 ev y vs bk al st h (env, fc, loc, stk, ov, pr)) (k : GoA TT g EI W bk0 h0 ev y l d Q L) : J l g y d pc al st h kc ks Q := by
  obtain ⟨hb, h1⟩ := bif_some hS
  have l0 := hb
  have hlen := Nat.eq_of_beq_eq_true l0
  subst hlen
  obtain ⟨S, hS2, rfl⟩ := one_some h1
  cases hS2
  exact st_null hd hp (k _ List.mem_cons_self)
theorem ok_iload_n {i : Fin 4} (hM : mOK TT g EI P KT l y own n) (hd : decode (jbC y) pc = .ok (.iload_n i, len)) (hS : aStep (TT, KT, KI, W, P, y, own, d, n) pc kc ks (.iload_n i) len env fc loc stk ov pr = some L) (hp : PT TT g EI W bk0 h0 ev y vs bk al st h (env, fc, loc, stk, ov, pr)) (k : GoA TT g EI W bk0 h0 ev y l d Q L) : J l g y d pc al st h kc ks Q := by
  obtain ⟨hb, h1⟩ := bif_some hS
  have l0 := hb
  have hlen := Nat.eq_of_beq_eq_true l0
  subst hlen
  obtain ⟨v, hv, hk, rfl⟩ := aLoad_some h1
  exact st_iload_n hd hv hk hp (k _ List.mem_cons_self)
theorem ok_iload {i : _} (hM : mOK TT g EI P KT l y own n) (hd : decode (jbC y) pc = .ok (.iload i, len)) (hS : aStep (TT, KT, KI, W, P, y, own, d, n) pc kc ks (.iload i) len env fc loc stk ov pr = some L) (hp : PT TT g EI W bk0 h0 ev y vs bk al st h (env, fc, loc, stk, ov, pr)) (k : GoA TT g EI W bk0 h0 ev y l d Q L) : J l g y d pc al st h kc ks Q := by
  obtain ⟨hb, h1⟩ := bif_some hS
  have l0 := hb
  have hlen := Nat.eq_of_beq_eq_true l0
  subst hlen
  obtain ⟨v, hv, hk, rfl⟩ := aLoad_some h1
  exact st_iload hd hv hk hp (k _ List.mem_cons_self)
theorem ok_istore_n {i : Fin 4} (hM : mOK TT g EI P KT l y own n) (hd : decode (jbC y) pc = .ok (.istore_n i, len)) (hS : aStep (TT, KT, KI, W, P, y, own, d, n) pc kc ks (.istore_n i) len env fc loc stk ov pr = some L) (hp : PT TT g EI W bk0 h0 ev y vs bk al st h (env, fc, loc, stk, ov, pr)) (k : GoA TT g EI W bk0 h0 ev y l d Q L) : J l g y d pc al st h kc ks Q := by
  match stk, hS, hp with
  | [], hS, _ => exact nn hS
  | v :: stk, hS, hp =>
    obtain ⟨hb, h1⟩ := bif_some hS
    simp only [Bool.and_eq_true, decide_eq_true_eq] at hb
    obtain ⟨⟨l0, c1⟩, c2⟩ := hb
    have hlen := Nat.eq_of_beq_eq_true l0
    subst hlen
    obtain ⟨S, hS2, rfl⟩ := one_some h1
    cases hS2
    exact st_istore_n hd c1 (blt_lt c2) hp (k _ List.mem_cons_self)
theorem ok_istore {i : _} (hM : mOK TT g EI P KT l y own n) (hd : decode (jbC y) pc = .ok (.istore i, len)) (hS : aStep (TT, KT, KI, W, P, y, own, d, n) pc kc ks (.istore i) len env fc loc stk ov pr = some L) (hp : PT TT g EI W bk0 h0 ev y vs bk al st h (env, fc, loc, stk, ov, pr)) (k : GoA TT g EI W bk0 h0 ev y l d Q L) : J l g y d pc al st h kc ks Q := by
  match stk, hS, hp with
  | [], hS, _ => exact nn hS
  | v :: stk, hS, hp =>
    obtain ⟨hb, h1⟩ := bif_some hS
    simp only [Bool.and_eq_true, decide_eq_true_eq] at hb
    obtain ⟨⟨l0, c1⟩, c2⟩ := hb
    have hlen := Nat.eq_of_beq_eq_true l0
    subst hlen
    obtain ⟨S, hS2, rfl⟩ := one_some h1
    cases hS2
    exact st_istore hd c1 (blt_lt c2) hp (k _ List.mem_cons_self)
theorem ok_lload_n {i : Fin 4} (hM : mOK TT g EI P KT l y own n) (hd : decode (jbC y) pc = .ok (.lload_n i, len)) (hS : aStep (TT, KT, KI, W, P, y, own, d, n) pc kc ks (.lload_n i) len env fc loc stk ov pr = some L) (hp : PT TT g EI W bk0 h0 ev y vs bk al st h (env, fc, loc, stk, ov, pr)) (k : GoA TT g EI W bk0 h0 ev y l d Q L) : J l g y d pc al st h kc ks Q := by
  obtain ⟨hb, h1⟩ := bif_some hS
  have l0 := hb
  have hlen := Nat.eq_of_beq_eq_true l0
  subst hlen
  obtain ⟨v, hv, hk, rfl⟩ := aLoad_some h1
  exact st_lload_n hd hv hk hp (k _ List.mem_cons_self)
theorem ok_lload {i : _} (hM : mOK TT g EI P KT l y own n) (hd : decode (jbC y) pc = .ok (.lload i, len)) (hS : aStep (TT, KT, KI, W, P, y, own, d, n) pc kc ks (.lload i) len env fc loc stk ov pr = some L) (hp : PT TT g EI W bk0 h0 ev y vs bk al st h (env, fc, loc, stk, ov, pr)) (k : GoA TT g EI W bk0 h0 ev y l d Q L) : J l g y d pc al st h kc ks Q := by
  obtain ⟨hb, h1⟩ := bif_some hS
  have l0 := hb
  have hlen := Nat.eq_of_beq_eq_true l0
  subst hlen
  obtain ⟨v, hv, hk, rfl⟩ := aLoad_some h1
  exact st_lload hd hv hk hp (k _ List.mem_cons_self)
theorem ok_lstore_n {i : Fin 4} (hM : mOK TT g EI P KT l y own n) (hd : decode (jbC y) pc = .ok (.lstore_n i, len)) (hS : aStep (TT, KT, KI, W, P, y, own, d, n) pc kc ks (.lstore_n i) len env fc loc stk ov pr = some L) (hp : PT TT g EI W bk0 h0 ev y vs bk al st h (env, fc, loc, stk, ov, pr)) (k : GoA TT g EI W bk0 h0 ev y l d Q L) : J l g y d pc al st h kc ks Q := by
  match stk, hS, hp with
  | [], hS, _ => exact nn hS
  | v :: stk, hS, hp =>
    obtain ⟨hb, h1⟩ := bif_some hS
    simp only [Bool.and_eq_true, decide_eq_true_eq] at hb
    obtain ⟨⟨l0, c1⟩, c2⟩ := hb
    have hlen := Nat.eq_of_beq_eq_true l0
    subst hlen
    obtain ⟨S, hS2, rfl⟩ := one_some h1
    cases hS2
    exact st_lstore_n hd c1 (blt_lt c2) hp (k _ List.mem_cons_self)
theorem ok_lstore {i : _} (hM : mOK TT g EI P KT l y own n) (hd : decode (jbC y) pc = .ok (.lstore i, len)) (hS : aStep (TT, KT, KI, W, P, y, own, d, n) pc kc ks (.lstore i) len env fc loc stk ov pr = some L) (hp : PT TT g EI W bk0 h0 ev y vs bk al st h (env, fc, loc, stk, ov, pr)) (k : GoA TT g EI W bk0 h0 ev y l d Q L) : J l g y d pc al st h kc ks Q := by
  match stk, hS, hp with
  | [], hS, _ => exact nn hS
  | v :: stk, hS, hp =>
    obtain ⟨hb, h1⟩ := bif_some hS
    simp only [Bool.and_eq_true, decide_eq_true_eq] at hb
    obtain ⟨⟨l0, c1⟩, c2⟩ := hb
    have hlen := Nat.eq_of_beq_eq_true l0
    subst hlen
    obtain ⟨S, hS2, rfl⟩ := one_some h1
    cases hS2
    exact st_lstore hd c1 (blt_lt c2) hp (k _ List.mem_cons_self)
theorem ok_aload_n {i : Fin 4} (hM : mOK TT g EI P KT l y own n) (hd : decode (jbC y) pc = .ok (.aload_n i, len)) (hS : aStep (TT, KT, KI, W, P, y, own, d, n) pc kc ks (.aload_n i) len env fc loc stk ov pr = some L) (hp : PT TT g EI W bk0 h0 ev y vs bk al st h (env, fc, loc, stk, ov, pr)) (k : GoA TT g EI W bk0 h0 ev y l d Q L) : J l g y d pc al st h kc ks Q := by
  obtain ⟨hb, h1⟩ := bif_some hS
  have l0 := hb
  have hlen := Nat.eq_of_beq_eq_true l0
  subst hlen
  obtain ⟨v, hv, hk, rfl⟩ := aLoad_some h1
  exact st_aload_n hd hv hk hp (k _ List.mem_cons_self)
theorem ok_aload {i : _} (hM : mOK TT g EI P KT l y own n) (hd : decode (jbC y) pc = .ok (.aload i, len)) (hS : aStep (TT, KT, KI, W, P, y, own, d, n) pc kc ks (.aload i) len env fc loc stk ov pr = some L) (hp : PT TT g EI W bk0 h0 ev y vs bk al st h (env, fc, loc, stk, ov, pr)) (k : GoA TT g EI W bk0 h0 ev y l d Q L) : J l g y d pc al st h kc ks Q := by
  obtain ⟨hb, h1⟩ := bif_some hS
  have l0 := hb
  have hlen := Nat.eq_of_beq_eq_true l0
  subst hlen
  obtain ⟨v, hv, hk, rfl⟩ := aLoad_some h1
  exact st_aload hd hv hk hp (k _ List.mem_cons_self)
theorem ok_astore_n {i : Fin 4} (hM : mOK TT g EI P KT l y own n) (hd : decode (jbC y) pc = .ok (.astore_n i, len)) (hS : aStep (TT, KT, KI, W, P, y, own, d, n) pc kc ks (.astore_n i) len env fc loc stk ov pr = some L) (hp : PT TT g EI W bk0 h0 ev y vs bk al st h (env, fc, loc, stk, ov, pr)) (k : GoA TT g EI W bk0 h0 ev y l d Q L) : J l g y d pc al st h kc ks Q := by
  match stk, hS, hp with
  | [], hS, _ => exact nn hS
  | v :: stk, hS, hp =>
    obtain ⟨hb, h1⟩ := bif_some hS
    simp only [Bool.and_eq_true, decide_eq_true_eq] at hb
    obtain ⟨⟨l0, c1⟩, c2⟩ := hb
    have hlen := Nat.eq_of_beq_eq_true l0
    subst hlen
    obtain ⟨S, hS2, rfl⟩ := one_some h1
    cases hS2
    exact st_astore_n hd c1 (blt_lt c2) hp (k _ List.mem_cons_self)
theorem ok_astore {i : _} (hM : mOK TT g EI P KT l y own n) (hd : decode (jbC y) pc = .ok (.astore i, len)) (hS : aStep (TT, KT, KI, W, P, y, own, d, n) pc kc ks (.astore i) len env fc loc stk ov pr = some L) (hp : PT TT g EI W bk0 h0 ev y vs bk al st h (env, fc, loc, stk, ov, pr)) (k : GoA TT g EI W bk0 h0 ev y l d Q L) : J l g y d pc al st h kc ks Q := by
  match stk, hS, hp with
  | [], hS, _ => exact nn hS
  | v :: stk, hS, hp =>
    obtain ⟨hb, h1⟩ := bif_some hS
    simp only [Bool.and_eq_true, decide_eq_true_eq] at hb
    obtain ⟨⟨l0, c1⟩, c2⟩ := hb
    have hlen := Nat.eq_of_beq_eq_true l0
    subst hlen
    obtain ⟨S, hS2, rfl⟩ := one_some h1
    cases hS2
    exact st_astore hd c1 (blt_lt c2) hp (k _ List.mem_cons_self)
theorem ok_iadd (hM : mOK TT g EI P KT l y own n) (hd : decode (jbC y) pc = .ok (.iadd, len)) (hS : aStep (TT, KT, KI, W, P, y, own, d, n) pc kc ks (.iadd) len env fc loc stk ov pr = some L) (hp : PT TT g EI W bk0 h0 ev y vs bk al st h (env, fc, loc, stk, ov, pr)) (k : GoA TT g EI W bk0 h0 ev y l d Q L) : J l g y d pc al st h kc ks Q := by
  match stk, hS, hp with
  | [], hS, _ => exact nn hS
  | [_], hS, _ => exact nn hS
  | v :: w :: stk, hS, hp =>
    obtain ⟨hb, h1⟩ := bif_some hS
    simp only [Bool.and_eq_true, decide_eq_true_eq] at hb
    obtain ⟨⟨l0, c1⟩, c2⟩ := hb
    have hlen := Nat.eq_of_beq_eq_true l0
    subst hlen
    obtain ⟨e, he, rfl⟩ := oneE_some h1
    exact st_iadd hd c1 c2 he hp (k _ List.mem_cons_self)
theorem ok_isub (hM : mOK TT g EI P KT l y own n) (hd : decode (jbC y) pc = .ok (.isub, len)) (hS : aStep (TT, KT, KI, W, P, y, own, d, n) pc kc ks (.isub) len env fc loc stk ov pr = some L) (hp : PT TT g EI W bk0 h0 ev y vs bk al st h (env, fc, loc, stk, ov, pr)) (k : GoA TT g EI W bk0 h0 ev y l d Q L) : J l g y d pc al st h kc ks Q := by
  match stk, hS, hp with
  | [], hS, _ => exact nn hS
  | [_], hS, _ => exact nn hS
  | v :: w :: stk, hS, hp =>
    obtain ⟨hb, h1⟩ := bif_some hS
    simp only [Bool.and_eq_true, decide_eq_true_eq] at hb
    obtain ⟨⟨l0, c1⟩, c2⟩ := hb
    have hlen := Nat.eq_of_beq_eq_true l0
    subst hlen
    obtain ⟨e, he, rfl⟩ := oneE_some h1
    exact st_isub hd c1 c2 he hp (k _ List.mem_cons_self)
theorem ok_imul (hM : mOK TT g EI P KT l y own n) (hd : decode (jbC y) pc = .ok (.imul, len)) (hS : aStep (TT, KT, KI, W, P, y, own, d, n) pc kc ks (.imul) len env fc loc stk ov pr = some L) (hp : PT TT g EI W bk0 h0 ev y vs bk al st h (env, fc, loc, stk, ov, pr)) (k : GoA TT g EI W bk0 h0 ev y l d Q L) : J l g y d pc al st h kc ks Q := by
  match stk, hS, hp with
  | [], hS, _ => exact nn hS
  | [_], hS, _ => exact nn hS
  | v :: w :: stk, hS, hp =>
    obtain ⟨hb, h1⟩ := bif_some hS
    simp only [Bool.and_eq_true, decide_eq_true_eq] at hb
    obtain ⟨⟨l0, c1⟩, c2⟩ := hb
    have hlen := Nat.eq_of_beq_eq_true l0
    subst hlen
    obtain ⟨e, he, rfl⟩ := oneE_some h1
    exact st_imul hd c1 c2 he hp (k _ List.mem_cons_self)
theorem ok_irem (hM : mOK TT g EI P KT l y own n) (hd : decode (jbC y) pc = .ok (.irem, len)) (hS : aStep (TT, KT, KI, W, P, y, own, d, n) pc kc ks (.irem) len env fc loc stk ov pr = some L) (hp : PT TT g EI W bk0 h0 ev y vs bk al st h (env, fc, loc, stk, ov, pr)) (k : GoA TT g EI W bk0 h0 ev y l d Q L) : J l g y d pc al st h kc ks Q := by
  match stk, hS, hp with
  | [], hS, _ => exact nn hS
  | [_], hS, _ => exact nn hS
  | v :: w :: stk, hS, hp =>
    obtain ⟨hb, h1⟩ := bif_some hS
    simp only [Bool.and_eq_true, decide_eq_true_eq] at hb
    obtain ⟨⟨l0, c1⟩, c2⟩ := hb
    have hlen := Nat.eq_of_beq_eq_true l0
    subst hlen
    obtain ⟨e, he, rfl⟩ := oneE_some h1
    exact st_irem hd c1 c2 he hp (k _ List.mem_cons_self)
theorem ok_iand (hM : mOK TT g EI P KT l y own n) (hd : decode (jbC y) pc = .ok (.iand, len)) (hS : aStep (TT, KT, KI, W, P, y, own, d, n) pc kc ks (.iand) len env fc loc stk ov pr = some L) (hp : PT TT g EI W bk0 h0 ev y vs bk al st h (env, fc, loc, stk, ov, pr)) (k : GoA TT g EI W bk0 h0 ev y l d Q L) : J l g y d pc al st h kc ks Q := by
  match stk, hS, hp with
  | [], hS, _ => exact nn hS
  | [_], hS, _ => exact nn hS
  | v :: w :: stk, hS, hp =>
    obtain ⟨hb, h1⟩ := bif_some hS
    simp only [Bool.and_eq_true, decide_eq_true_eq] at hb
    obtain ⟨⟨l0, c1⟩, c2⟩ := hb
    have hlen := Nat.eq_of_beq_eq_true l0
    subst hlen
    obtain ⟨e, he, rfl⟩ := oneE_some h1
    exact st_iand hd c1 c2 he hp (k _ List.mem_cons_self)
theorem ok_ior (hM : mOK TT g EI P KT l y own n) (hd : decode (jbC y) pc = .ok (.ior, len)) (hS : aStep (TT, KT, KI, W, P, y, own, d, n) pc kc ks (.ior) len env fc loc stk ov pr = some L) (hp : PT TT g EI W bk0 h0 ev y vs bk al st h (env, fc, loc, stk, ov, pr)) (k : GoA TT g EI W bk0 h0 ev y l d Q L) : J l g y d pc al st h kc ks Q := by
  match stk, hS, hp with
  | [], hS, _ => exact nn hS
  | [_], hS, _ => exact nn hS
  | v :: w :: stk, hS, hp =>
    obtain ⟨hb, h1⟩ := bif_some hS
    simp only [Bool.and_eq_true, decide_eq_true_eq] at hb
    obtain ⟨⟨l0, c1⟩, c2⟩ := hb
    have hlen := Nat.eq_of_beq_eq_true l0
    subst hlen
    obtain ⟨e, he, rfl⟩ := oneE_some h1
    exact st_ior hd c1 c2 he hp (k _ List.mem_cons_self)
theorem ok_ixor (hM : mOK TT g EI P KT l y own n) (hd : decode (jbC y) pc = .ok (.ixor, len)) (hS : aStep (TT, KT, KI, W, P, y, own, d, n) pc kc ks (.ixor) len env fc loc stk ov pr = some L) (hp : PT TT g EI W bk0 h0 ev y vs bk al st h (env, fc, loc, stk, ov, pr)) (k : GoA TT g EI W bk0 h0 ev y l d Q L) : J l g y d pc al st h kc ks Q := by
  match stk, hS, hp with
  | [], hS, _ => exact nn hS
  | [_], hS, _ => exact nn hS
  | v :: w :: stk, hS, hp =>
    obtain ⟨hb, h1⟩ := bif_some hS
    simp only [Bool.and_eq_true, decide_eq_true_eq] at hb
    obtain ⟨⟨l0, c1⟩, c2⟩ := hb
    have hlen := Nat.eq_of_beq_eq_true l0
    subst hlen
    obtain ⟨e, he, rfl⟩ := oneE_some h1
    exact st_ixor hd c1 c2 he hp (k _ List.mem_cons_self)
theorem ok_ishl (hM : mOK TT g EI P KT l y own n) (hd : decode (jbC y) pc = .ok (.ishl, len)) (hS : aStep (TT, KT, KI, W, P, y, own, d, n) pc kc ks (.ishl) len env fc loc stk ov pr = some L) (hp : PT TT g EI W bk0 h0 ev y vs bk al st h (env, fc, loc, stk, ov, pr)) (k : GoA TT g EI W bk0 h0 ev y l d Q L) : J l g y d pc al st h kc ks Q := by
  match stk, hS, hp with
  | [], hS, _ => exact nn hS
  | [_], hS, _ => exact nn hS
  | v :: w :: stk, hS, hp =>
    obtain ⟨hb, h1⟩ := bif_some hS
    simp only [Bool.and_eq_true, decide_eq_true_eq] at hb
    obtain ⟨⟨l0, c1⟩, c2⟩ := hb
    have hlen := Nat.eq_of_beq_eq_true l0
    subst hlen
    obtain ⟨e, he, rfl⟩ := oneE_some h1
    exact st_ishl hd c1 c2 he hp (k _ List.mem_cons_self)
theorem ok_ishr (hM : mOK TT g EI P KT l y own n) (hd : decode (jbC y) pc = .ok (.ishr, len)) (hS : aStep (TT, KT, KI, W, P, y, own, d, n) pc kc ks (.ishr) len env fc loc stk ov pr = some L) (hp : PT TT g EI W bk0 h0 ev y vs bk al st h (env, fc, loc, stk, ov, pr)) (k : GoA TT g EI W bk0 h0 ev y l d Q L) : J l g y d pc al st h kc ks Q := by
  match stk, hS, hp with
  | [], hS, _ => exact nn hS
  | [_], hS, _ => exact nn hS
  | v :: w :: stk, hS, hp =>
    obtain ⟨hb, h1⟩ := bif_some hS
    simp only [Bool.and_eq_true, decide_eq_true_eq] at hb
    obtain ⟨⟨l0, c1⟩, c2⟩ := hb
    have hlen := Nat.eq_of_beq_eq_true l0
    subst hlen
    obtain ⟨e, he, rfl⟩ := oneE_some h1
    exact st_ishr hd c1 c2 he hp (k _ List.mem_cons_self)
theorem ok_ladd (hM : mOK TT g EI P KT l y own n) (hd : decode (jbC y) pc = .ok (.ladd, len)) (hS : aStep (TT, KT, KI, W, P, y, own, d, n) pc kc ks (.ladd) len env fc loc stk ov pr = some L) (hp : PT TT g EI W bk0 h0 ev y vs bk al st h (env, fc, loc, stk, ov, pr)) (k : GoA TT g EI W bk0 h0 ev y l d Q L) : J l g y d pc al st h kc ks Q := by
  match stk, hS, hp with
  | [], hS, _ => exact nn hS
  | [_], hS, _ => exact nn hS
  | v :: w :: stk, hS, hp =>
    obtain ⟨hb, h1⟩ := bif_some hS
    simp only [Bool.and_eq_true, decide_eq_true_eq] at hb
    obtain ⟨⟨l0, c1⟩, c2⟩ := hb
    have hlen := Nat.eq_of_beq_eq_true l0
    subst hlen
    obtain ⟨e, he, rfl⟩ := oneE_some h1
    exact st_ladd hd c1 c2 he hp (k _ List.mem_cons_self)
theorem ok_lsub (hM : mOK TT g EI P KT l y own n) (hd : decode (jbC y) pc = .ok (.lsub, len)) (hS : aStep (TT, KT, KI, W, P, y, own, d, n) pc kc ks (.lsub) len env fc loc stk ov pr = some L) (hp : PT TT g EI W bk0 h0 ev y vs bk al st h (env, fc, loc, stk, ov, pr)) (k : GoA TT g EI W bk0 h0 ev y l d Q L) : J l g y d pc al st h kc ks Q := by
  match stk, hS, hp with
  | [], hS, _ => exact nn hS
  | [_], hS, _ => exact nn hS
  | v :: w :: stk, hS, hp =>
    obtain ⟨hb, h1⟩ := bif_some hS
    simp only [Bool.and_eq_true, decide_eq_true_eq] at hb
    obtain ⟨⟨l0, c1⟩, c2⟩ := hb
    have hlen := Nat.eq_of_beq_eq_true l0
    subst hlen
    obtain ⟨e, he, rfl⟩ := oneE_some h1
    exact st_lsub hd c1 c2 he hp (k _ List.mem_cons_self)
theorem ok_iushr (hM : mOK TT g EI P KT l y own n) (hd : decode (jbC y) pc = .ok (.iushr, len)) (hS : aStep (TT, KT, KI, W, P, y, own, d, n) pc kc ks (.iushr) len env fc loc stk ov pr = some L) (hp : PT TT g EI W bk0 h0 ev y vs bk al st h (env, fc, loc, stk, ov, pr)) (k : GoA TT g EI W bk0 h0 ev y l d Q L) : J l g y d pc al st h kc ks Q := by
  match stk, hS, hp with
  | [], hS, _ => exact nn hS
  | [_], hS, _ => exact nn hS
  | v :: w :: stk, hS, hp =>
    obtain ⟨hb, h1⟩ := bif_some hS
    simp only [Bool.and_eq_true, decide_eq_true_eq] at hb
    obtain ⟨⟨l0, c1⟩, c2⟩ := hb
    have hlen := Nat.eq_of_beq_eq_true l0
    subst hlen
    obtain ⟨e, he, rfl⟩ := oneE_some h1
    cases he
    exact st_iushr hd c1 c2 hp (k _ List.mem_cons_self)
theorem ok_lmul (hM : mOK TT g EI P KT l y own n) (hd : decode (jbC y) pc = .ok (.lmul, len)) (hS : aStep (TT, KT, KI, W, P, y, own, d, n) pc kc ks (.lmul) len env fc loc stk ov pr = some L) (hp : PT TT g EI W bk0 h0 ev y vs bk al st h (env, fc, loc, stk, ov, pr)) (k : GoA TT g EI W bk0 h0 ev y l d Q L) : J l g y d pc al st h kc ks Q := by
  match stk, hS, hp with
  | [], hS, _ => exact nn hS
  | [_], hS, _ => exact nn hS
  | v :: w :: stk, hS, hp =>
    obtain ⟨hb, h1⟩ := bif_some hS
    simp only [Bool.and_eq_true, decide_eq_true_eq] at hb
    obtain ⟨⟨l0, c1⟩, c2⟩ := hb
    have hlen := Nat.eq_of_beq_eq_true l0
    subst hlen
    obtain ⟨e, he, rfl⟩ := oneE_some h1
    cases he
    exact st_lmul hd c1 c2 hp (k _ List.mem_cons_self)
theorem ok_land (hM : mOK TT g EI P KT l y own n) (hd : decode (jbC y) pc = .ok (.land, len)) (hS : aStep (TT, KT, KI, W, P, y, own, d, n) pc kc ks (.land) len env fc loc stk ov pr = some L) (hp : PT TT g EI W bk0 h0 ev y vs bk al st h (env, fc, loc, stk, ov, pr)) (k : GoA TT g EI W bk0 h0 ev y l d Q L) : J l g y d pc al st h kc ks Q := by
  match stk, hS, hp with
  | [], hS, _ => exact nn hS
  | [_], hS, _ => exact nn hS
  | v :: w :: stk, hS, hp =>
    obtain ⟨hb, h1⟩ := bif_some hS
    simp only [Bool.and_eq_true, decide_eq_true_eq] at hb
    obtain ⟨⟨l0, c1⟩, c2⟩ := hb
    have hlen := Nat.eq_of_beq_eq_true l0
    subst hlen
    obtain ⟨e, he, rfl⟩ := oneE_some h1
    cases he
    exact st_land hd c1 c2 hp (k _ List.mem_cons_self)
theorem ok_lor (hM : mOK TT g EI P KT l y own n) (hd : decode (jbC y) pc = .ok (.lor, len)) (hS : aStep (TT, KT, KI, W, P, y, own, d, n) pc kc ks (.lor) len env fc loc stk ov pr = some L) (hp : PT TT g EI W bk0 h0 ev y vs bk al st h (env, fc, loc, stk, ov, pr)) (k : GoA TT g EI W bk0 h0 ev y l d Q L) : J l g y d pc al st h kc ks Q := by
  match stk, hS, hp with
  | [], hS, _ => exact nn hS
  | [_], hS, _ => exact nn hS
  | v :: w :: stk, hS, hp =>
    obtain ⟨hb, h1⟩ := bif_some hS
    simp only [Bool.and_eq_true, decide_eq_true_eq] at hb
    obtain ⟨⟨l0, c1⟩, c2⟩ := hb
    have hlen := Nat.eq_of_beq_eq_true l0
    subst hlen
    obtain ⟨e, he, rfl⟩ := oneE_some h1
    cases he
    exact st_lor hd c1 c2 hp (k _ List.mem_cons_self)
theorem ok_lxor (hM : mOK TT g EI P KT l y own n) (hd : decode (jbC y) pc = .ok (.lxor, len)) (hS : aStep (TT, KT, KI, W, P, y, own, d, n) pc kc ks (.lxor) len env fc loc stk ov pr = some L) (hp : PT TT g EI W bk0 h0 ev y vs bk al st h (env, fc, loc, stk, ov, pr)) (k : GoA TT g EI W bk0 h0 ev y l d Q L) : J l g y d pc al st h kc ks Q := by
  match stk, hS, hp with
  | [], hS, _ => exact nn hS
  | [_], hS, _ => exact nn hS
  | v :: w :: stk, hS, hp =>
    obtain ⟨hb, h1⟩ := bif_some hS
    simp only [Bool.and_eq_true, decide_eq_true_eq] at hb
    obtain ⟨⟨l0, c1⟩, c2⟩ := hb
    have hlen := Nat.eq_of_beq_eq_true l0
    subst hlen
    obtain ⟨e, he, rfl⟩ := oneE_some h1
    cases he
    exact st_lxor hd c1 c2 hp (k _ List.mem_cons_self)
theorem ok_lshl (hM : mOK TT g EI P KT l y own n) (hd : decode (jbC y) pc = .ok (.lshl, len)) (hS : aStep (TT, KT, KI, W, P, y, own, d, n) pc kc ks (.lshl) len env fc loc stk ov pr = some L) (hp : PT TT g EI W bk0 h0 ev y vs bk al st h (env, fc, loc, stk, ov, pr)) (k : GoA TT g EI W bk0 h0 ev y l d Q L) : J l g y d pc al st h kc ks Q := by
  match stk, hS, hp with
  | [], hS, _ => exact nn hS
  | [_], hS, _ => exact nn hS
  | v :: w :: stk, hS, hp =>
    obtain ⟨hb, h1⟩ := bif_some hS
    simp only [Bool.and_eq_true, decide_eq_true_eq] at hb
    obtain ⟨⟨l0, c1⟩, c2⟩ := hb
    have hlen := Nat.eq_of_beq_eq_true l0
    subst hlen
    obtain ⟨e, he, rfl⟩ := oneE_some h1
    cases he
    exact st_lshl hd c1 c2 hp (k _ List.mem_cons_self)
theorem ok_lshr (hM : mOK TT g EI P KT l y own n) (hd : decode (jbC y) pc = .ok (.lshr, len)) (hS : aStep (TT, KT, KI, W, P, y, own, d, n) pc kc ks (.lshr) len env fc loc stk ov pr = some L) (hp : PT TT g EI W bk0 h0 ev y vs bk al st h (env, fc, loc, stk, ov, pr)) (k : GoA TT g EI W bk0 h0 ev y l d Q L) : J l g y d pc al st h kc ks Q := by
  match stk, hS, hp with
  | [], hS, _ => exact nn hS
  | [_], hS, _ => exact nn hS
  | v :: w :: stk, hS, hp =>
    obtain ⟨hb, h1⟩ := bif_some hS
    simp only [Bool.and_eq_true, decide_eq_true_eq] at hb
    obtain ⟨⟨l0, c1⟩, c2⟩ := hb
    have hlen := Nat.eq_of_beq_eq_true l0
    subst hlen
    obtain ⟨e, he, rfl⟩ := oneE_some h1
    cases he
    exact st_lshr hd c1 c2 hp (k _ List.mem_cons_self)
theorem ok_lcmp (hM : mOK TT g EI P KT l y own n) (hd : decode (jbC y) pc = .ok (.lcmp, len)) (hS : aStep (TT, KT, KI, W, P, y, own, d, n) pc kc ks (.lcmp) len env fc loc stk ov pr = some L) (hp : PT TT g EI W bk0 h0 ev y vs bk al st h (env, fc, loc, stk, ov, pr)) (k : GoA TT g EI W bk0 h0 ev y l d Q L) : J l g y d pc al st h kc ks Q := by
  match stk, hS, hp with
  | [], hS, _ => exact nn hS
  | [_], hS, _ => exact nn hS
  | v :: w :: stk, hS, hp =>
    obtain ⟨hb, h1⟩ := bif_some hS
    simp only [Bool.and_eq_true, decide_eq_true_eq] at hb
    obtain ⟨⟨l0, c1⟩, c2⟩ := hb
    have hlen := Nat.eq_of_beq_eq_true l0
    subst hlen
    obtain ⟨e, he, rfl⟩ := oneE_some h1
    cases he
    exact st_lcmp hd c1 c2 hp (k _ List.mem_cons_self)
theorem ok_idiv (hM : mOK TT g EI P KT l y own n) (hd : decode (jbC y) pc = .ok (.idiv, len)) (hS : aStep (TT, KT, KI, W, P, y, own, d, n) pc kc ks (.idiv) len env fc loc stk ov pr = some L) (hp : PT TT g EI W bk0 h0 ev y vs bk al st h (env, fc, loc, stk, ov, pr)) (k : GoA TT g EI W bk0 h0 ev y l d Q L) : J l g y d pc al st h kc ks Q := by
  match stk, hS, hp with
  | [], hS, _ => exact nn hS
  | [_], hS, _ => exact nn hS
  | v :: w :: stk, hS, hp =>
    obtain ⟨hb, h1⟩ := bif_some hS
    simp only [Bool.and_eq_true, decide_eq_true_eq] at hb
    obtain ⟨⟨l0, c1⟩, c2⟩ := hb
    have hlen := Nat.eq_of_beq_eq_true l0
    subst hlen
    split at h1
    · rename_i q hq
      obtain ⟨S, hS2, rfl⟩ := one_some h1
      cases hS2
      exact st_idiv hd c1 c2 hq hp (k _ List.mem_cons_self)
    · cases h1
theorem ok_ineg (hM : mOK TT g EI P KT l y own n) (hd : decode (jbC y) pc = .ok (.ineg, len)) (hS : aStep (TT, KT, KI, W, P, y, own, d, n) pc kc ks (.ineg) len env fc loc stk ov pr = some L) (hp : PT TT g EI W bk0 h0 ev y vs bk al st h (env, fc, loc, stk, ov, pr)) (k : GoA TT g EI W bk0 h0 ev y l d Q L) : J l g y d pc al st h kc ks Q := by
  match stk, hS, hp with
  | [], hS, _ => exact nn hS
  | v :: stk, hS, hp =>
    obtain ⟨hb, h1⟩ := bif_some hS
    simp only [Bool.and_eq_true, decide_eq_true_eq] at hb
    obtain ⟨l0, c1⟩ := hb
    have hlen := Nat.eq_of_beq_eq_true l0
    subst hlen
    obtain ⟨e, he, rfl⟩ := oneE_some h1
    exact st_ineg hd c1 he hp (k _ List.mem_cons_self)
theorem ok_i2l (hM : mOK TT g EI P KT l y own n) (hd : decode (jbC y) pc = .ok (.i2l, len)) (hS : aStep (TT, KT, KI, W, P, y, own, d, n) pc kc ks (.i2l) len env fc loc stk ov pr = some L) (hp : PT TT g EI W bk0 h0 ev y vs bk al st h (env, fc, loc, stk, ov, pr)) (k : GoA TT g EI W bk0 h0 ev y l d Q L) : J l g y d pc al st h kc ks Q := by
  match stk, hS, hp with
  | [], hS, _ => exact nn hS
  | v :: stk, hS, hp =>
    obtain ⟨hb, h1⟩ := bif_some hS
    simp only [Bool.and_eq_true, decide_eq_true_eq] at hb
    obtain ⟨l0, c1⟩ := hb
    have hlen := Nat.eq_of_beq_eq_true l0
    subst hlen
    split at h1
    · rename_i a ha
      obtain ⟨e, he, rfl⟩ := oneE_some h1
      cases he
      exact st_i2l hd c1 ha hp (k _ List.mem_cons_self)
    · cases h1
theorem ok_l2i (hM : mOK TT g EI P KT l y own n) (hd : decode (jbC y) pc = .ok (.l2i, len)) (hS : aStep (TT, KT, KI, W, P, y, own, d, n) pc kc ks (.l2i) len env fc loc stk ov pr = some L) (hp : PT TT g EI W bk0 h0 ev y vs bk al st h (env, fc, loc, stk, ov, pr)) (k : GoA TT g EI W bk0 h0 ev y l d Q L) : J l g y d pc al st h kc ks Q := by
  match stk, hS, hp with
  | [], hS, _ => exact nn hS
  | v :: stk, hS, hp =>
    obtain ⟨hb, h1⟩ := bif_some hS
    simp only [Bool.and_eq_true, decide_eq_true_eq] at hb
    obtain ⟨l0, c1⟩ := hb
    have hlen := Nat.eq_of_beq_eq_true l0
    subst hlen
    split at h1
    · rename_i a ha
      cases hb2 : (decide ((-2147483648 : Int) ≤ a.1) && decide (a.2 ≤ (2147483647 : Int))) with
      | true =>
        rw [hb2] at h1
        simp only [cond_true] at h1
        obtain ⟨e, he, rfl⟩ := oneE_some h1
        cases he
        simp only [Bool.and_eq_true, decide_eq_true_eq] at hb2
        exact st_l2i hd c1 ha hb2.1 hb2.2 hp (k _ List.mem_cons_self)
      | false =>
        rw [hb2] at h1
        simp only [cond_false] at h1
        obtain ⟨e, he, rfl⟩ := oneE_some h1
        cases he
        exact st_l2i0 hd c1 hp (k _ List.mem_cons_self)
    · cases h1
theorem ok_dup (hM : mOK TT g EI P KT l y own n) (hd : decode (jbC y) pc = .ok (.dup, len)) (hS : aStep (TT, KT, KI, W, P, y, own, d, n) pc kc ks (.dup) len env fc loc stk ov pr = some L) (hp : PT TT g EI W bk0 h0 ev y vs bk al st h (env, fc, loc, stk, ov, pr)) (k : GoA TT g EI W bk0 h0 ev y l d Q L) : J l g y d pc al st h kc ks Q := by
  match stk, hS, hp with
  | [], hS, _ => exact nn hS
  | v :: stk, hS, hp =>
    obtain ⟨hb, h1⟩ := bif_some hS
    simp only [Bool.and_eq_true, decide_eq_true_eq] at hb
    obtain ⟨l0, c1⟩ := hb
    have hlen := Nat.eq_of_beq_eq_true l0
    subst hlen
    obtain ⟨S, hS2, rfl⟩ := one_some h1
    cases hS2
    exact st_dup hd (nt_f c1) hp (k _ List.mem_cons_self)
theorem ok_pop (hM : mOK TT g EI P KT l y own n) (hd : decode (jbC y) pc = .ok (.pop, len)) (hS : aStep (TT, KT, KI, W, P, y, own, d, n) pc kc ks (.pop) len env fc loc stk ov pr = some L) (hp : PT TT g EI W bk0 h0 ev y vs bk al st h (env, fc, loc, stk, ov, pr)) (k : GoA TT g EI W bk0 h0 ev y l d Q L) : J l g y d pc al st h kc ks Q := by
  match stk, hS, hp with
  | [], hS, _ => exact nn hS
  | v :: stk, hS, hp =>
    obtain ⟨hb, h1⟩ := bif_some hS
    simp only [Bool.and_eq_true, decide_eq_true_eq] at hb
    obtain ⟨l0, c1⟩ := hb
    have hlen := Nat.eq_of_beq_eq_true l0
    subst hlen
    obtain ⟨S, hS2, rfl⟩ := one_some h1
    cases hS2
    exact st_pop hd (nt_f c1) hp (k _ List.mem_cons_self)
theorem ok_dup2 (hM : mOK TT g EI P KT l y own n) (hd : decode (jbC y) pc = .ok (.dup2, len)) (hS : aStep (TT, KT, KI, W, P, y, own, d, n) pc kc ks (.dup2) len env fc loc stk ov pr = some L) (hp : PT TT g EI W bk0 h0 ev y vs bk al st h (env, fc, loc, stk, ov, pr)) (k : GoA TT g EI W bk0 h0 ev y l d Q L) : J l g y d pc al st h kc ks Q := by
  match stk, hS, hp with
  | [], hS, _ => exact nn hS
  | [_], hS, _ => exact nn hS
  | v :: w :: stk, hS, hp =>
    obtain ⟨hb, h1⟩ := bif_some hS
    simp only [Bool.and_eq_true, decide_eq_true_eq] at hb
    obtain ⟨⟨l0, c1⟩, c2⟩ := hb
    have hlen := Nat.eq_of_beq_eq_true l0
    subst hlen
    obtain ⟨S, hS2, rfl⟩ := one_some h1
    cases hS2
    exact st_dup2 hd (nt_f c1) (nt_f c2) hp (k _ List.mem_cons_self)
theorem ok_goto {off : Int} (hM : mOK TT g EI P KT l y own n) (hd : decode (jbC y) pc = .ok (.goto off, len)) (hS : aStep (TT, KT, KI, W, P, y, own, d, n) pc kc ks (.goto off) len env fc loc stk ov pr = some L) (hp : PT TT g EI W bk0 h0 ev y vs bk al st h (env, fc, loc, stk, ov, pr)) (k : GoA TT g EI W bk0 h0 ev y l d Q L) : J l g y d pc al st h kc ks Q := by
  obtain ⟨hb, h1⟩ := bif_some hS
  simp only [Bool.and_eq_true, decide_eq_true_eq] at hb
  obtain ⟨l0, c1⟩ := hb
  have hlen := Nat.eq_of_beq_eq_true l0
  subst hlen
  obtain ⟨S, hS2, rfl⟩ := one_some h1
  cases hS2
  exact j_goto hd (tgtN_ok c1) (k _ List.mem_cons_self _ _ _ _ _ hp)
theorem ok_icmp {c : ClassFile.Cond} {off : Int} (hM : mOK TT g EI P KT l y own n) (hd : decode (jbC y) pc = .ok (.if_icmp c off, len)) (hS : aStep (TT, KT, KI, W, P, y, own, d, n) pc kc ks (.if_icmp c off) len env fc loc stk ov pr = some L) (hp : PT TT g EI W bk0 h0 ev y vs bk al st h (env, fc, loc, stk, ov, pr)) (k : GoA TT g EI W bk0 h0 ev y l d Q L) : J l g y d pc al st h kc ks Q := by
  match stk, hS, hp with
  | [], hS, _ => exact nn hS
  | [_], hS, _ => exact nn hS
  | v :: w :: stk, hS, hp =>
    obtain ⟨hb, h1⟩ := bif_some hS
    simp only [Bool.and_eq_true, decide_eq_true_eq] at hb
    obtain ⟨⟨⟨l0, c1⟩, c2⟩, c3⟩ := hb
    have hlen := Nat.eq_of_beq_eq_true l0
    subst hlen
    have hL := Option.some.inj h1
    clear h1
    subst hL
    exact st_icmp hd c1 c2 c3 hp k
theorem ok_ifc {c : ClassFile.Cond} {off : Int} (hM : mOK TT g EI P KT l y own n) (hd : decode (jbC y) pc = .ok (.ifCond c off, len)) (hS : aStep (TT, KT, KI, W, P, y, own, d, n) pc kc ks (.ifCond c off) len env fc loc stk ov pr = some L) (hp : PT TT g EI W bk0 h0 ev y vs bk al st h (env, fc, loc, stk, ov, pr)) (k : GoA TT g EI W bk0 h0 ev y l d Q L) : J l g y d pc al st h kc ks Q := by
  match stk, hS, hp with
  | [], hS, _ => exact nn hS
  | v :: stk, hS, hp =>
    obtain ⟨hb, h1⟩ := bif_some hS
    simp only [Bool.and_eq_true, decide_eq_true_eq] at hb
    obtain ⟨⟨l0, c1⟩, c2⟩ := hb
    have hlen := Nat.eq_of_beq_eq_true l0
    subst hlen
    have hL := Option.some.inj h1
    clear h1
    subst hL
    exact st_ifc hd c1 c2 hp k
theorem ok_ifnull {off : Int} (hM : mOK TT g EI P KT l y own n) (hd : decode (jbC y) pc = .ok (.ifnull off, len)) (hS : aStep (TT, KT, KI, W, P, y, own, d, n) pc kc ks (.ifnull off) len env fc loc stk ov pr = some L) (hp : PT TT g EI W bk0 h0 ev y vs bk al st h (env, fc, loc, stk, ov, pr)) (k : GoA TT g EI W bk0 h0 ev y l d Q L) : J l g y d pc al st h kc ks Q := by
  match stk, hS, hp with
  | [], hS, _ => exact nn hS
  | v :: stk, hS, hp =>
    obtain ⟨hb, h1⟩ := bif_some hS
    simp only [Bool.and_eq_true, decide_eq_true_eq] at hb
    obtain ⟨l0, c1⟩ := hb
    have hlen := Nat.eq_of_beq_eq_true l0
    subst hlen
    obtain ⟨vk, va, vb⟩ := v
    match vk, h1, hp with
    | 0, h1, _ => exact nn h1
    | 1, h1, _ => exact nn h1
    | 2, h1, hp =>
      obtain ⟨S, hS2, rfl⟩ := one_some h1
      cases hS2
      exact st_ifnull2 hd rfl hp (k _ List.mem_cons_self)
    | 3, h1, hp =>
      obtain ⟨S, hS2, rfl⟩ := one_some h1
      cases hS2
      exact st_ifnull3 hd c1 hp (k _ List.mem_cons_self)
    | 4, h1, hp =>
      have hL := Option.some.inj h1
      clear h1
      subst hL
      exact st_ifnull4 hd c1 hp (k _ List.mem_cons_self) (k _ (List.mem_cons_of_mem _ List.mem_cons_self))
    | m + 5, h1, _ => exact nn h1
theorem ok_ifnonnull {off : Int} (hM : mOK TT g EI P KT l y own n) (hd : decode (jbC y) pc = .ok (.ifnonnull off, len)) (hS : aStep (TT, KT, KI, W, P, y, own, d, n) pc kc ks (.ifnonnull off) len env fc loc stk ov pr = some L) (hp : PT TT g EI W bk0 h0 ev y vs bk al st h (env, fc, loc, stk, ov, pr)) (k : GoA TT g EI W bk0 h0 ev y l d Q L) : J l g y d pc al st h kc ks Q := by
  match stk, hS, hp with
  | [], hS, _ => exact nn hS
  | v :: stk, hS, hp =>
    obtain ⟨hb, h1⟩ := bif_some hS
    simp only [Bool.and_eq_true, decide_eq_true_eq] at hb
    obtain ⟨l0, c1⟩ := hb
    have hlen := Nat.eq_of_beq_eq_true l0
    subst hlen
    obtain ⟨vk, va, vb⟩ := v
    match vk, h1, hp with
    | 0, h1, _ => exact nn h1
    | 1, h1, _ => exact nn h1
    | 2, h1, hp =>
      obtain ⟨S, hS2, rfl⟩ := one_some h1
      cases hS2
      exact st_ifnonnull2 hd c1 rfl hp (k _ List.mem_cons_self)
    | 3, h1, hp =>
      obtain ⟨S, hS2, rfl⟩ := one_some h1
      cases hS2
      exact st_ifnonnull3 hd hp (k _ List.mem_cons_self)
    | 4, h1, hp =>
      have hL := Option.some.inj h1
      clear h1
      subst hL
      exact st_ifnonnull4 hd c1 hp (k _ List.mem_cons_self) (k _ (List.mem_cons_of_mem _ List.mem_cons_self))
    | m + 5, h1, _ => exact nn h1
theorem ok_table {dflt lo hi : Int} {offs : Array Int} (hM : mOK TT g EI P KT l y own n) (hd : decode (jbC y) pc = .ok (.tableswitch dflt lo hi offs, len)) (hS : aStep (TT, KT, KI, W, P, y, own, d, n) pc kc ks (.tableswitch dflt lo hi offs) len env fc loc stk ov pr = some L) (hp : PT TT g EI W bk0 h0 ev y vs bk al st h (env, fc, loc, stk, ov, pr)) (k : GoA TT g EI W bk0 h0 ev y l d Q L) : J l g y d pc al st h kc ks Q := by
  match stk, hS, hp with
  | [], hS, _ => exact nn hS
  | v :: stk, hS, hp =>
    obtain ⟨hb, h1⟩ := bif_some hS
    simp only [Bool.and_eq_true] at hb
    obtain ⟨⟨⟨c1, c2⟩, c3⟩, c4⟩ := hb
    have hL := Option.some.inj h1
    clear h1
    subst hL
    exact st_table hd c1 (of_decide_eq_true c2) (of_decide_eq_true c3) (fun o ho => of_decide_eq_true (List.all_eq_true.mp c4 o ho)) hp k
theorem ok_get {j : _} (hM : mOK TT g EI P KT l y own n) (hd : decode (jbC y) pc = .ok (.getfield j, len)) (hS : aStep (TT, KT, KI, W, P, y, own, d, n) pc kc ks (.getfield j) len env fc loc stk ov pr = some L) (hp : PT TT g EI W bk0 h0 ev y vs bk al st h (env, fc, loc, stk, ov, pr)) (k : GoA TT g EI W bk0 h0 ev y l d Q L) : J l g y d pc al st h kc ks Q := by
  match stk, hS, hp with
  | [], hS, _ => exact nn hS
  | v :: stk, hS, hp =>
    obtain ⟨hb, h1⟩ := bif_some hS
    simp only [Bool.and_eq_true, decide_eq_true_eq] at hb
    obtain ⟨l0, c1⟩ := hb
    have hlen := Nat.eq_of_beq_eq_true l0
    subst hlen
    split at h1
    · rename_i q hf
      obtain ⟨S, hS2, rfl⟩ := one_some h1
      exact st_get hM.1 hM.2.2.2.1 hd c1 hf hS2 hp (k _ List.mem_cons_self)
    · cases h1
theorem ok_put {j : _} (hM : mOK TT g EI P KT l y own n) (hd : decode (jbC y) pc = .ok (.putfield j, len)) (hS : aStep (TT, KT, KI, W, P, y, own, d, n) pc kc ks (.putfield j) len env fc loc stk ov pr = some L) (hp : PT TT g EI W bk0 h0 ev y vs bk al st h (env, fc, loc, stk, ov, pr)) (k : GoA TT g EI W bk0 h0 ev y l d Q L) : J l g y d pc al st h kc ks Q := by
  match stk, hS, hp with
  | [], hS, _ => exact nn hS
  | [_], hS, _ => exact nn hS
  | v :: w :: stk, hS, hp =>
    obtain ⟨hb, h1⟩ := bif_some hS
    simp only [Bool.and_eq_true, decide_eq_true_eq] at hb
    obtain ⟨l0, c1⟩ := hb
    have hlen := Nat.eq_of_beq_eq_true l0
    subst hlen
    split at h1
    · rename_i q hf
      obtain ⟨S, hS2, rfl⟩ := one_some h1
      exact st_put hM.2.2.1 hM.2.2.2.1 hd c1 hf hS2 hp (k _ List.mem_cons_self)
    · cases h1
theorem ok_iaload (hM : mOK TT g EI P KT l y own n) (hd : decode (jbC y) pc = .ok (.iaload, len)) (hS : aStep (TT, KT, KI, W, P, y, own, d, n) pc kc ks (.iaload) len env fc loc stk ov pr = some L) (hp : PT TT g EI W bk0 h0 ev y vs bk al st h (env, fc, loc, stk, ov, pr)) (k : GoA TT g EI W bk0 h0 ev y l d Q L) : J l g y d pc al st h kc ks Q := by
  match stk, hS, hp with
  | [], hS, _ => exact nn hS
  | [_], hS, _ => exact nn hS
  | v :: w :: stk, hS, hp =>
    obtain ⟨hb, h1⟩ := bif_some hS
    simp only [Bool.and_eq_true, decide_eq_true_eq] at hb
    obtain ⟨⟨l0, c1⟩, c2⟩ := hb
    have hlen := Nat.eq_of_beq_eq_true l0
    subst hlen
    obtain ⟨S, hS2, rfl⟩ := one_some h1
    exact st_ald (ty := 0) (Or.inl ⟨rfl, hd⟩) c1 c2 hS2 hp (k _ List.mem_cons_self)
theorem ok_baload (hM : mOK TT g EI P KT l y own n) (hd : decode (jbC y) pc = .ok (.baload, len)) (hS : aStep (TT, KT, KI, W, P, y, own, d, n) pc kc ks (.baload) len env fc loc stk ov pr = some L) (hp : PT TT g EI W bk0 h0 ev y vs bk al st h (env, fc, loc, stk, ov, pr)) (k : GoA TT g EI W bk0 h0 ev y l d Q L) : J l g y d pc al st h kc ks Q := by
  match stk, hS, hp with
  | [], hS, _ => exact nn hS
  | [_], hS, _ => exact nn hS
  | v :: w :: stk, hS, hp =>
    obtain ⟨hb, h1⟩ := bif_some hS
    simp only [Bool.and_eq_true, decide_eq_true_eq] at hb
    obtain ⟨⟨l0, c1⟩, c2⟩ := hb
    have hlen := Nat.eq_of_beq_eq_true l0
    subst hlen
    obtain ⟨S, hS2, rfl⟩ := one_some h1
    exact st_ald (ty := 1) (Or.inr ⟨rfl, hd⟩) c1 c2 hS2 hp (k _ List.mem_cons_self)
theorem ok_iastore (hM : mOK TT g EI P KT l y own n) (hd : decode (jbC y) pc = .ok (.iastore, len)) (hS : aStep (TT, KT, KI, W, P, y, own, d, n) pc kc ks (.iastore) len env fc loc stk ov pr = some L) (hp : PT TT g EI W bk0 h0 ev y vs bk al st h (env, fc, loc, stk, ov, pr)) (k : GoA TT g EI W bk0 h0 ev y l d Q L) : J l g y d pc al st h kc ks Q := by
  match stk, hS, hp with
  | [], hS, _ => exact nn hS
  | [_], hS, _ => exact nn hS
  | [_, _], hS, _ => exact nn hS
  | v :: x :: w :: stk, hS, hp =>
    obtain ⟨hb, h1⟩ := bif_some hS
    simp only [Bool.and_eq_true, decide_eq_true_eq] at hb
    obtain ⟨⟨⟨l0, c1⟩, c2⟩, c3⟩ := hb
    have hlen := Nat.eq_of_beq_eq_true l0
    subst hlen
    obtain ⟨S, hS2, rfl⟩ := one_some h1
    exact st_ast (ty := 0) hM.2.2.1 hM.2.1 (Or.inl ⟨rfl, hd⟩) c1 c2 c3 hS2 hp (k _ List.mem_cons_self)
theorem ok_bastore (hM : mOK TT g EI P KT l y own n) (hd : decode (jbC y) pc = .ok (.bastore, len)) (hS : aStep (TT, KT, KI, W, P, y, own, d, n) pc kc ks (.bastore) len env fc loc stk ov pr = some L) (hp : PT TT g EI W bk0 h0 ev y vs bk al st h (env, fc, loc, stk, ov, pr)) (k : GoA TT g EI W bk0 h0 ev y l d Q L) : J l g y d pc al st h kc ks Q := by
  match stk, hS, hp with
  | [], hS, _ => exact nn hS
  | [_], hS, _ => exact nn hS
  | [_, _], hS, _ => exact nn hS
  | v :: x :: w :: stk, hS, hp =>
    obtain ⟨hb, h1⟩ := bif_some hS
    simp only [Bool.and_eq_true, decide_eq_true_eq] at hb
    obtain ⟨⟨⟨l0, c1⟩, c2⟩, c3⟩ := hb
    have hlen := Nat.eq_of_beq_eq_true l0
    subst hlen
    obtain ⟨S, hS2, rfl⟩ := one_some h1
    exact st_ast (ty := 1) hM.2.2.1 hM.2.1 (Or.inr ⟨rfl, hd⟩) c1 c2 c3 hS2 hp (k _ List.mem_cons_self)
theorem ok_alen (hM : mOK TT g EI P KT l y own n) (hd : decode (jbC y) pc = .ok (.arraylength, len)) (hS : aStep (TT, KT, KI, W, P, y, own, d, n) pc kc ks (.arraylength) len env fc loc stk ov pr = some L) (hp : PT TT g EI W bk0 h0 ev y vs bk al st h (env, fc, loc, stk, ov, pr)) (k : GoA TT g EI W bk0 h0 ev y l d Q L) : J l g y d pc al st h kc ks Q := by
  match stk, hS, hp with
  | [], hS, _ => exact nn hS
  | v :: stk, hS, hp =>
    obtain ⟨hb, h1⟩ := bif_some hS
    simp only [Bool.and_eq_true, decide_eq_true_eq] at hb
    obtain ⟨l0, c1⟩ := hb
    have hlen := Nat.eq_of_beq_eq_true l0
    subst hlen
    split at h1
    · rename_i q hq
      obtain ⟨hb2, h2⟩ := bif_some h1
      simp only [Bool.and_eq_true, decide_eq_true_eq] at hb2
      obtain ⟨e, he, rfl⟩ := oneE_some h2
      cases he
      exact st_alen hM.2.1 hd c1 hq hb2.1 hp (k _ List.mem_cons_self)
    · cases h1
theorem ok_iinc {i : _} {z : Int} (hM : mOK TT g EI P KT l y own n) (hd : decode (jbC y) pc = .ok (.iinc i z, len)) (hS : aStep (TT, KT, KI, W, P, y, own, d, n) pc kc ks (.iinc i z) len env fc loc stk ov pr = some L) (hp : PT TT g EI W bk0 h0 ev y vs bk al st h (env, fc, loc, stk, ov, pr)) (k : GoA TT g EI W bk0 h0 ev y l d Q L) : J l g y d pc al st h kc ks Q := by
  obtain ⟨hb, h1⟩ := bif_some hS
  simp only [Bool.and_eq_true, decide_eq_true_eq] at hb
  obtain ⟨⟨⟨l0, c1⟩, c2⟩, c3⟩ := hb
  have hlen := Nat.eq_of_beq_eq_true l0
  subst hlen
  split at h1
  · rename_i v hv
    obtain ⟨hb2, h2⟩ := bif_some h1
    split at h2
    · rename_i a ha
      cases hb3 : (decide ((-2147483648 : Int) ≤ a.1 + z) && decide (a.2 + z ≤ (2147483647 : Int))) with
      | true =>
        rw [hb3] at h2
        simp only [cond_true] at h2
        obtain ⟨S, hS2, rfl⟩ := one_some h2
        cases hS2
        simp only [Bool.and_eq_true, decide_eq_true_eq] at hb3
        exact st_iinc hd (blt_lt c1) c2 c3 hv hb2 (iinc_v hp.ee c2 c3 ha hb3.1 hb3.2) hp (k _ List.mem_cons_self)
      | false =>
        rw [hb3] at h2
        simp only [cond_false] at h2
        obtain ⟨S, hS2, rfl⟩ := one_some h2
        cases hS2
        exact st_iinc hd (blt_lt c1) c2 c3 hv hb2 (fun x _ => eVal.any32 _) hp (k _ List.mem_cons_self)
    · cases h2
  · cases h1
theorem ok_lookup {dflt : Int} {ps : Array (Int × Int)} (hM : mOK TT g EI P KT l y own n) (hd : decode (jbC y) pc = .ok (.lookupswitch dflt ps, len)) (hS : aStep (TT, KT, KI, W, P, y, own, d, n) pc kc ks (.lookupswitch dflt ps) len env fc loc stk ov pr = some L) (hp : PT TT g EI W bk0 h0 ev y vs bk al st h (env, fc, loc, stk, ov, pr)) (k : GoA TT g EI W bk0 h0 ev y l d Q L) : J l g y d pc al st h kc ks Q := by
  match stk, hS, hp with
  | [], hS, _ => exact nn hS
  | v :: stk, hS, hp =>
    obtain ⟨hb, h1⟩ := bif_some hS
    simp only [Bool.and_eq_true] at hb
    obtain ⟨⟨⟨c1, c2⟩, c3⟩, c4⟩ := hb
    have hL := Option.some.inj h1
    clear h1
    subst hL
    exact st_lookup hd c1 c2 (of_decide_eq_true c3) (fun o ho => of_decide_eq_true (List.all_eq_true.mp c4 o ho)) hp k
end IN
end
section
/-! calls at the step; the whole step -/
section IV
variable {TT : List (List aCT)} {g : jG} {EI : aB → jH → Prop} {W P : List aR} {bk0 : aB} {h0 : jH} {ev : List Int} {y : Nat} {vs : List Int} {bk : aB} {al : List (Option Value)} {st : List Value} {h : jH} {env : List aE} {fc : List aF} {loc : List (Option aV)} {stk : List aV} {ov : List aO} {pr : List Nat} {l : Launch} {d pc kc ks : Nat} {Q : Option Value → jH → Prop} {KT : List aK} {KI : List (List Nat)} {own n len : Nat} {L : List (Nat × aS × Nat × Nat)}
/-- a call's contract, found: what the rules of a call want -/
theorem aInv_ok {y2 m : Nat} (hM : mOK TT g EI P KT l y own n) (hS : aInv (TT, KT, KI, W, P, y, own, d, n) pc kc ks y2 env fc loc stk ov pr m = some L) (hp : PT TT g EI W bk0 h0 ev y vs bk al st h (env, fc, loc, stk, ov, pr)) (k : GoA TT g EI W bk0 h0 ev y l d Q L) :
    m ≤ stk.length ∧ ∃ (mc ms kc' ks' d2 : Nat) (Q' : Option Value → jH → Prop), mc + kc' = kc ∧ ms + ks' = ks ∧ d2 + 1 ≤ d ∧ ((st.drop m).map fun v => v.category).sum ≤ 8 ∧ jCal l g y2 d2 ((st.take m).reverse) h mc ms Q' ∧ ∀ v h', Q' v h' → J l g y d (pc + 3) al (v.toList ++ st.drop m) h' kc' ks' Q := by
  obtain ⟨hb, h1⟩ := bif_some hS
  have hb := Nat.le_of_ble_eq_true hb
  split at h1
  · cases h1
  · rename_i C hC
    split at h1
    · cases h1
    · rename_i r hr
      have hL := Option.some.inj h1
      clear h1
      subst hL
      obtain ⟨j, K, k1, k2, k3, k4, k5, k6⟩ := aCall_ok hr
      obtain ⟨s1, s2, s3, s4⟩ := sk_args hp.1.2.2.2.2.1 hb
      obtain ⟨a1, a2, Q', a3, a4⟩ := aApp_ok (hM.2.2.2.2 j K k1 k2) k6 (hp.drop m) s2 s4
      subst k3
      refine ⟨hb, _, _, r.1, r.2.1, _, Q', k4, k5, a1, ?_, a3, fun v h' hq => ?_⟩
      · rw [sk_cat _ _ (sk_drop m _ _ hp.1.2.2.2.2.1)]
        exact a2
      · obtain ⟨S, q1, vs', bk', q2⟩ := a4 v h' hq
        exact k (pc + 3, S, r.1, r.2.1) (List.mem_map.mpr ⟨S, q1, rfl⟩) _ _ _ _ _ q2
theorem cpTy_ok {n0 i : Nat} {s0 s1 : List aSeg} {x : Int} (h : cpTy n0 s0 s1 = true) (hx : sgOK s0 i x) (hi : i < n0) : ∀ j, sgOK s1 j x := by
  unfold cpTy at h
  split at h
  · rename_i n b
    rw [Bool.and_eq_true] at h
    have hn := Nat.eq_of_beq_eq_true h.1
    have hb := hx (0, n, 1, [b]) List.mem_cons_self (Nat.zero_le _) (by show i < 0 + n; omega) b (by simp [Nat.mod_one])
    intro j s hs _ _ q hq
    have h3 := List.all_eq_true.mp h.2 s hs
    have h4 := List.all_eq_true.mp h3 q (List.mem_of_getElem? hq)
    simp only [Bool.and_eq_true, decide_eq_true_eq] at h4
    omega
  · cases h
theorem isCp_mem {own j : Nat} (h : isCp own j = true) : (own, j) ∈ jcp := by
  obtain ⟨q, hq, h1⟩ := List.any_eq_true.mp h
  rw [Bool.and_eq_true] at h1
  have e1 := Nat.eq_of_beq_eq_true h1.1
  have e2 := Nat.eq_of_beq_eq_true h1.2
  rw [← e1, ← e2]
  exact hq
theorem i32_nn {z : Int32} (hz : 0 ≤ z.toInt) : ¬ z < 0 := by
  intro h
  have := Int32.lt_iff_toInt_lt.mp h
  simp at this
  omega
theorem st_cpy {j : Nat} {n' dp w1 sp w0 : aV} {S : aS} (hE : eiOK TT g EI P) (ho : jcN own = (jyN y).cls) (hd : decode (jbC y) pc = .ok (.invokestatic j, 3)) (hcp : (own, j) ∈ jcp) (k1 : Nat.beq n'.1 0 = true) (k2 : Nat.beq dp.1 0 = true) (k3 : Nat.beq w1.1 2 = true) (k4 : Nat.beq sp.1 0 = true) (k5 : Nat.beq w0.1 2 = true) (hd1 : 1 ≤ d) (hcat : catS stk ≤ 8) (hS : aCpy TT W P env fc loc stk ov pr w0.2.1 w0.2.2 w1.2.1 w1.2.2 sp.2.1 dp.2.1 n'.2.1 = some S) (hp : PT TT g EI W bk0 h0 ev y vs bk al st h (env, fc, loc, n' :: dp :: w1 :: sp :: w0 :: stk, ov, pr)) (k : Go TT g EI W bk0 h0 ev y l d Q (pc + 3) S kc ks) : J l g y d pc al st h kc ks Q := by
  obtain ⟨x1, s1, rfl, q1, hp1⟩ := hp.pop
  obtain ⟨x2, s2, rfl, q2, hp2⟩ := hp1.pop
  obtain ⟨x3, s3, rfl, q3, hp3⟩ := hp2.pop
  obtain ⟨x4, s4, rfl, q4, hp4⟩ := hp3.pop
  obtain ⟨x5, s5, rfl, q5, hp5⟩ := hp4.pop
  obtain ⟨N, rfl, hN⟩ := q1.int k1
  obtain ⟨D, rfl, hD⟩ := q2.int k2
  obtain ⟨b1, hb1, rfl⟩ := q3.rf k3
  obtain ⟨A, rfl, hA⟩ := q4.int k4
  obtain ⟨b0, hb0, rfl⟩ := q5.rf k5
  rw [aCpy] at hS
  split at hS
  · rename_i r0 r1 ht0 ht1
    obtain ⟨hc, hS⟩ := bif_some hS
    simp only [Bool.and_eq_true] at hc
    obtain ⟨⟨⟨⟨⟨⟨⟨⟨⟨c1, c2⟩, c3⟩, c4⟩, c5⟩, c6⟩, c7⟩, c8⟩, c9⟩, c10⟩ := hc
    have hS2 := Option.some.inj hS
    clear hS
    subst hS2
    have t0 := Nat.eq_of_beq_eq_true c1
    have t1 := Nat.eq_of_beq_eq_true c2
    obtain ⟨cc0, hc0, f, rfl, hsg0⟩ := hp5.2.1.1 _ b0 w0.2.2 _ hb0 ht0
    obtain ⟨cc1, hc1, f1, rfl, hsg1⟩ := hp5.2.1.1 _ b1 w1.2.2 _ hb1 ht1
    have a3 := aWithin_ok hp5.ee c3 hA
    have a4 := aWithin_ok hp5.ee c4 hD
    have a5 := aWithin_ok hp5.ee c5 hN
    obtain ⟨z6, z61, z62⟩ := ent_ok hp5.ee.1 hp5.ee.2.2 c6
    rw [fadd_ok (fadd_ok fcon_ok (lin_ok hp5.ee.2.1 hA)) (lin_ok hp5.ee.2.1 hN)] at z61
    have z63 := Option.some.inj z61
    obtain ⟨z7, z71, z72⟩ := ent_ok hp5.ee.1 hp5.ee.2.2 c7
    rw [fadd_ok (fadd_ok fcon_ok (lin_ok hp5.ee.2.1 hD)) (lin_ok hp5.ee.2.1 hN)] at z71
    have z73 := Option.some.inj z71
    have e1 := i32_clamp (i := A) (by omega)
    have e2 := i32_clamp (i := D) (by omega)
    have e3 := i32_clamp (i := N) (by omega)
    have hct : ctOK g bk (.inl r1) (.inl (r1.1, r1.2.1, va_cpy f f1 A.toNatClampNeg D.toNatClampNeg N.toNatClampNeg)) := ⟨_, rfl, fun i hi => by
      by_cases hin : D.toNatClampNeg ≤ i ∧ i < D.toNatClampNeg + N.toNatClampNeg
      · simp only [va_cpy, if_pos hin]
        exact cpTy_ok c8 (hsg0 _ (by omega)) (by omega) i
      · simp only [va_cpy, if_neg hin]
        exact hsg1 i hi⟩
    have hoff : offW [(w1.2.1, w1.2.2, 0, (r1.2.1 : Int) - 1)] w1.2.1 w1.2.2 (.inl (r1.1, r1.2.1, f1)) (.inl (r1.1, r1.2.1, va_cpy f f1 A.toNatClampNeg D.toNatClampNeg N.toNatClampNeg)) := ⟨rfl, rfl, fun i hi => by
      have hin : ¬ (D.toNatClampNeg ≤ i ∧ i < D.toNatClampNeg + N.toNatClampNeg) := fun q => hi ⟨_, List.mem_cons_self, rfl, rfl, by show (0 : Int) ≤ i; omega, by show (i : Int) ≤ (r1.2.1 : Int) - 1; omega⟩
      simp only [va_cpy, if_neg hin]⟩
    have hP2 := hp5.write hE hb1 ht1 hc1 hct hoff c9 c10
    rw [t1] at hP2 hc1
    rw [t0] at hc0
    refine j_copy hd ho hcp hc0 hc1 (i32_nn (by omega)) (i32_nn (by omega)) (i32_nn (by omega)) (by omega) (by omega) hd1 ?_ (k _ _ _ _ _ hP2)
    rw [sk_cat _ _ hp5.1.2.2.2.2.1]
    exact hcat
  · cases hS
theorem jfindS_mem {own j y2 : Nat} (h : jfindS own j = some y2) : (own, j, y2) ∈ jeM ∨ (own, j, y2) ∈ jeN := by
  rw [jfindS] at h
  split at h
  · rename_i q hq
    cases h
    exact Or.inl (jfind3_mem hq)
  · exact Or.inr (jfind3_mem h)
theorem jfindS_M {own j y2 : Nat} (h : jfindS own j = some y2) (hs : (jfind3 jeM own j).isSome = true) : (own, j, y2) ∈ jeM := by
  rw [jfindS] at h
  split at h
  · rename_i q hq
    cases h
    exact jfind3_mem hq
  · rename_i hq
    rw [hq] at hs
    cases hs
theorem i32_lt {x z : Int32} : x < z ↔ x.toInt < z.toInt := Int32.lt_iff_toInt_lt
theorem st_min {j : Nat} {v w : aV} {q : aE × List aF} (ho : jcN own = (jyN y).cls) (hd : decode (jbC y) pc = .ok (.invokestatic j, 3)) (hm : (own, j, 49) ∈ jeM) (k1 : Nat.beq v.1 0 = true) (k2 : Nat.beq w.1 0 = true) (hd1 : 1 ≤ d) (hcat : catS stk ≤ 8) (hq : aMin env fc w.2.1 v.2.1 = some q) (hp : PT TT g EI W bk0 h0 ev y vs bk al st h (env, fc, loc, v :: w :: stk, ov, pr)) (k : Go TT g EI W bk0 h0 ev y l d Q (pc + 3) (env ++ [q.1], q.2, loc, (0, env.length, 0) :: stk, ov, pr) kc ks) : J l g y d pc al st h kc ks Q := by
  obtain ⟨x1, s1, rfl, q1, hp1⟩ := hp.pop
  obtain ⟨x2, s2, rfl, q2, hp2⟩ := hp1.pop
  obtain ⟨b, rfl, hb⟩ := q1.int k1
  obtain ⟨a, rfl, ha⟩ := q2.int k2
  obtain ⟨h1, h2, h3⟩ := hp2.ee
  obtain ⟨p, r, g1, g2, he⟩ := aiv2 hq
  cases he
  have b1 := aiv_ok h1 h2 h3 g1 ha
  have b2 := aiv_ok h1 h2 h3 g2 hb
  have hv : (if b < a then b else a).toInt ≤ a.toInt ∧ (if b < a then b else a).toInt ≤ b.toInt ∧ ((if b < a then b else a).toInt = a.toInt ∨ (if b < a then b else a).toInt = b.toInt) := by
    by_cases hc : b < a
    · rw [if_pos hc]
      have := i32_lt.mp hc
      omega
    · rw [if_neg hc]
      have : ¬ b.toInt < a.toInt := fun q => hc (i32_lt.mpr q)
      omega
  have hP := hp2.push32 (e := eNew (bif decide (p.1 < r.1) then p.1 else r.1) (bif decide (p.2 < r.2) then p.2 else r.2) none) (x := if b < a then b else a) (eVal.bd (by by_cases c : p.1 < r.1 <;> simp [c] <;> omega) (by by_cases c : p.2 < r.2 <;> simp [c] <;> omega))
  refine j_mmin hd ho hm hd1 (by rw [sk_cat _ _ hp2.1.2.2.2.2.1]; exact hcat) (k _ _ _ _ _ (hP.setE ⟨hP.ee.1, hP.ee.2.1, fun F hF2 => ?_⟩))
  have hone : fev (vs ++ [(if b < a then b else a).toInt]) ([(env.length, 1)], 0) = some (if b < a then b else a).toInt := fone_ok (by rw [h1.1]; simp)
  rcases List.mem_cons.mp hF2 with rfl | hF2
  · exact ⟨_, fadd_ok (fev_app (lin_ok h2 ha)) hone, by omega⟩
  · rcases List.mem_cons.mp hF2 with rfl | hF2
    · exact ⟨_, fadd_ok (fev_app (lin_ok h2 hb)) hone, by omega⟩
    · exact hP.ee.2.2 F hF2
theorem i32_abs {x : Int32} (h : (-2147483648 : Int) < x.toInt) : (if 0 ≤ x then x else 0 - x).toInt = if 0 ≤ x.toInt then x.toInt else -x.toInt := by
  have hm := Int32.toInt_lt x
  by_cases hc : 0 ≤ x
  · have h1 : 0 ≤ x.toInt := by simpa using Int32.le_iff_toInt_le.mp hc
    rw [if_pos hc, if_pos h1]
  · have h1 : ¬ 0 ≤ x.toInt := fun q => hc (Int32.le_iff_toInt_le.mpr (by simpa using q))
    rw [if_neg hc, if_neg h1, Int32.toInt_sub]
    rw [show (0 : Int32).toInt = 0 from rfl]
    rw [Int.bmod_eq_of_le (by omega) (by omega)]
    omega
theorem st_abs {j : Nat} {v : aV} {e : aE} (ho : jcN own = (jyN y).cls) (hd : decode (jbC y) pc = .ok (.invokestatic j, 3)) (hm : (own, j, 161) ∈ jeM) (k1 : Nat.beq v.1 0 = true) (hd1 : 1 ≤ d) (hcat : catS stk ≤ 8) (hq : aAbs env fc v.2.1 = some e) (hp : PT TT g EI W bk0 h0 ev y vs bk al st h (env, fc, loc, v :: stk, ov, pr)) (k : Go TT g EI W bk0 h0 ev y l d Q (pc + 3) (env ++ [e], fc, loc, (0, env.length, 0) :: stk, ov, pr) kc ks) : J l g y d pc al st h kc ks Q := by
  obtain ⟨x1, s1, rfl, q1, hp1⟩ := hp.pop
  obtain ⟨a, rfl, ha⟩ := q1.int k1
  rw [aAbs] at hq
  cases g1 : aiv env fc v.2.1 with
  | none => rw [g1] at hq; cases hq
  | some p =>
    rw [g1] at hq
    have b1 := aiv_ok hp1.ee.1 hp1.ee.2.1 hp1.ee.2.2 g1 ha
    refine j_mabs hd ho hm hd1 (by rw [sk_cat _ _ hp1.1.2.2.2.2.1]; exact hcat) (k _ _ _ _ _ (hp1.push32 ?_))
    dsimp only at hq
    by_cases hc : (-2147483648 : Int) < p.1
    · simp only [hc, decide_true, cond_true] at hq
      cases hq
      rw [i32_abs (by omega)]
      refine eVal.bd ?_ ?_
      · by_cases c : 0 ≤ a.toInt
        · rw [if_pos c]; exact c
        · rw [if_neg c]; omega
      · by_cases c : 0 ≤ a.toInt <;> by_cases c2 : p.2 < -p.1 <;> simp [c, c2] <;> omega
    · simp only [hc, decide_false, cond_false] at hq
      cases hq
      exact eVal.any32 _
theorem ok_invS {j : _} (hM : mOK TT g EI P KT l y own n) (hd : decode (jbC y) pc = .ok (.invokestatic j, len)) (hS : aStep (TT, KT, KI, W, P, y, own, d, n) pc kc ks (.invokestatic j) len env fc loc stk ov pr = some L) (hp : PT TT g EI W bk0 h0 ev y vs bk al st h (env, fc, loc, stk, ov, pr)) (k : GoA TT g EI W bk0 h0 ev y l d Q L) : J l g y d pc al st h kc ks Q := by
  obtain ⟨hb, h1⟩ := bif_some hS
  have hlen := Nat.eq_of_beq_eq_true hb
  subst hlen
  dsimp only at h1
  cases hcp : isCp own j with
  | true =>
    rw [hcp] at h1
    simp only [cond_true] at h1
    unfold aCpyS at h1
    split at h1
    · obtain ⟨hb, h2⟩ := bif_some h1
      simp only [Bool.and_eq_true] at hb
      obtain ⟨⟨⟨⟨⟨⟨c1, c2⟩, c3⟩, c4⟩, c5⟩, c6⟩, c7⟩ := hb
      obtain ⟨S, hS2, rfl⟩ := one_some h2
      exact st_cpy hM.2.2.1 hM.2.2.2.1 hd (isCp_mem hcp) c1 c2 c3 c4 c5 (Nat.le_of_ble_eq_true c6) (Nat.le_of_ble_eq_true c7) hS2 hp (k _ List.mem_cons_self)
    · cases h1
  | false =>
    rw [hcp] at h1
    simp only [cond_false] at h1
    split at h1
    · rename_i hf
      obtain ⟨hs, h2⟩ := bif_some h1
      unfold aMinS at h2
      split at h2
      · obtain ⟨hb, h3⟩ := bif_some h2
        simp only [Bool.and_eq_true] at hb
        obtain ⟨⟨⟨c1, c2⟩, c3⟩, c4⟩ := hb
        split at h3
        · rename_i q hq
          obtain ⟨S, hS2, rfl⟩ := one_some h3
          cases hS2
          exact st_min hM.2.2.2.1 hd (jfindS_M hf hs) c1 c2 (Nat.le_of_ble_eq_true c3) (Nat.le_of_ble_eq_true c4) hq hp (k _ List.mem_cons_self)
        · cases h3
      · cases h2
    · rename_i hf
      obtain ⟨hs, h2⟩ := bif_some h1
      unfold aAbsS at h2
      split at h2
      · obtain ⟨hb, h3⟩ := bif_some h2
        simp only [Bool.and_eq_true] at hb
        obtain ⟨⟨c1, c3⟩, c4⟩ := hb
        split at h3
        · rename_i q hq
          obtain ⟨S, hS2, rfl⟩ := one_some h3
          cases hS2
          exact st_abs hM.2.2.2.1 hd (jfindS_M hf hs) c1 (Nat.le_of_ble_eq_true c3) (Nat.le_of_ble_eq_true c4) hq hp (k _ List.mem_cons_self)
        · cases h3
      · cases h2
    · rename_i y2 _ _ hf
      obtain ⟨hb2, h2⟩ := bif_some h1
      simp only [Bool.and_eq_true] at hb2
      have hk := Nat.eq_of_beq_eq_true hb2.1
      have hy := blt_lt hb2.2
      obtain ⟨m1, m2, m3, m4⟩ := je_mem hy
      obtain ⟨i1, mc, ms, kc', ks', d2, Q', e1, e2, i2, i3, i4, i5⟩ := aInv_ok hM h2 hp k
      subst e1
      subst e2
      obtain ⟨s1, s2, s3, s4⟩ := sk_args hp.1.2.2.2.2.1 i1
      rw [s1]
      rcases jfindS_mem hf with hf | hf
      · exact j_callS hd hM.2.2.2.1 hf hy m1 m2 hk (m3 (by rw [hk]; decide)) s3 i2 i3 i4 i5
      · exact j_callSN hd hM.2.2.2.1 hf hy m1 m2 hk (m3 (by rw [hk]; decide)) s3 i2 i3 i4 i5
    · cases h1
theorem ok_invV {j : _} (hM : mOK TT g EI P KT l y own n) (hd : decode (jbC y) pc = .ok (.invokevirtual j, len)) (hS : aStep (TT, KT, KI, W, P, y, own, d, n) pc kc ks (.invokevirtual j) len env fc loc stk ov pr = some L) (hp : PT TT g EI W bk0 h0 ev y vs bk al st h (env, fc, loc, stk, ov, pr)) (k : GoA TT g EI W bk0 h0 ev y l d Q L) : J l g y d pc al st h kc ks Q := by
  obtain ⟨hb, h1⟩ := bif_some hS
  have hlen := Nat.eq_of_beq_eq_true hb
  subst hlen
  split at h1
  · rename_i y2 hf
    obtain ⟨hb2, h2⟩ := bif_some h1
    simp only [Bool.and_eq_true] at hb2
    obtain ⟨⟨hk, hy⟩, hr⟩ := hb2
    have hk := Nat.eq_of_beq_eq_true hk
    have hy := blt_lt hy
    obtain ⟨m1, m2, m3, m4⟩ := je_mem hy
    obtain ⟨i1, mc, ms, kc', ks', d2, Q', e1, e2, i2, i3, i4, i5⟩ := aInv_ok hM h2 hp k
    subst e1
    subst e2
    rw [aRcv] at hr
    cases hv : stk[jnp y2]? with
    | none => rw [hv] at hr; cases hr
    | some v =>
      rw [hv] at hr
      simp only [Bool.and_eq_true] at hr
      obtain ⟨r1, r2⟩ := hr
      cases ht : tyAt TT v.2.1 v.2.2 with
      | none => rw [ht] at r2; cases r2
      | some t =>
        rw [ht] at r2
        cases t with
        | inl q => cases r2
        | inr q =>
          have r3 := Nat.eq_of_beq_eq_true r2
          obtain ⟨hl, hat⟩ := sk_at _ _ hp.1.2.2.2.2.1
          obtain ⟨w, w1, w2⟩ := hat _ v hv
          obtain ⟨b, hb3, rfl⟩ := w2.rf r1
          obtain ⟨c, hcc, fs, rfl, hlen, hfs⟩ := hp.2.1.1 _ b v.2.2 _ hb3 ht
          have hlt : jnp y2 < st.length := (List.getElem?_eq_some_iff.mp w1).1
          have e1 : (st.take (jnp y2 + 1)).reverse = Value.ref (g.2.2 + (b + v.2.2)) :: (st.take (jnp y2)).reverse := by
            rw [List.take_succ, w1]
            simp
          rw [e1] at i4
          have e2 : st = ((st.take (jnp y2)).reverse).reverse ++ Value.ref (g.2.2 + (b + v.2.2)) :: st.drop (jnp y2 + 1) := by
            rw [List.reverse_reverse]
            have e3 := (List.take_append_drop (jnp y2 + 1) st).symm
            rw [List.take_succ, w1] at e3
            simpa using e3
          rw [e2]
          exact j_callV hd hM.2.2.2.1 (jfind3_mem hf) hy m1 (m4 hk) m2 hk (m3 (by rw [hk]; decide)) (by rw [List.length_reverse, List.length_take]; omega) i2 i3 hcc (by rw [r3]; exact jyo_cl hy) i4 i5
  · cases h1
end IV
end
section
/-! the whole step -/
section WS
variable {TT : List (List aCT)} {g : jG} {EI : aB → jH → Prop} {W P : List aR} {bk0 : aB} {h0 : jH} {ev : List Int} {y : Nat} {vs : List Int} {bk : aB} {al : List (Option Value)} {st : List Value} {h : jH} {env : List aE} {fc : List aF} {loc : List (Option aV)} {stk : List aV} {ov : List aO} {pr : List Nat} {l : Launch} {d pc kc ks : Nat} {Q : Option Value → jH → Prop} {KT : List aK} {KI : List (List Nat)} {own n len : Nat} {L : List (Nat × aS × Nat × Nat)}
theorem aStep_ok {i : Instr} (hM : mOK TT g EI P KT l y own n) (hd : decode (jbC y) pc = .ok (i, len)) (hS : aStep (TT, KT, KI, W, P, y, own, d, n) pc kc ks i len env fc loc stk ov pr = some L) (hp : PT TT g EI W bk0 h0 ev y vs bk al st h (env, fc, loc, stk, ov, pr)) (k : GoA TT g EI W bk0 h0 ev y l d Q L) : J l g y d pc al st h kc ks Q := by
  cases i with
  | iconst => exact ok_iconst hM hd hS hp k
  | bipush => exact ok_bipush hM hd hS hp k
  | sipush => exact ok_sipush hM hd hS hp k
  | lconst => exact ok_lconst hM hd hS hp k
  | ldc => exact ok_ldc hM hd hS hp k
  | ldc_w => exact ok_ldc_w hM hd hS hp k
  | ldc2_w => exact ok_ldc2_w hM hd hS hp k
  | aconst_null => exact ok_null hM hd hS hp k
  | iload_n => exact ok_iload_n hM hd hS hp k
  | iload => exact ok_iload hM hd hS hp k
  | istore_n => exact ok_istore_n hM hd hS hp k
  | istore => exact ok_istore hM hd hS hp k
  | lload_n => exact ok_lload_n hM hd hS hp k
  | lload => exact ok_lload hM hd hS hp k
  | lstore_n => exact ok_lstore_n hM hd hS hp k
  | lstore => exact ok_lstore hM hd hS hp k
  | aload_n => exact ok_aload_n hM hd hS hp k
  | aload => exact ok_aload hM hd hS hp k
  | astore_n => exact ok_astore_n hM hd hS hp k
  | astore => exact ok_astore hM hd hS hp k
  | iadd => exact ok_iadd hM hd hS hp k
  | isub => exact ok_isub hM hd hS hp k
  | imul => exact ok_imul hM hd hS hp k
  | irem => exact ok_irem hM hd hS hp k
  | iand => exact ok_iand hM hd hS hp k
  | ior => exact ok_ior hM hd hS hp k
  | ixor => exact ok_ixor hM hd hS hp k
  | ishl => exact ok_ishl hM hd hS hp k
  | ishr => exact ok_ishr hM hd hS hp k
  | ladd => exact ok_ladd hM hd hS hp k
  | lsub => exact ok_lsub hM hd hS hp k
  | iushr => exact ok_iushr hM hd hS hp k
  | lmul => exact ok_lmul hM hd hS hp k
  | land => exact ok_land hM hd hS hp k
  | lor => exact ok_lor hM hd hS hp k
  | lxor => exact ok_lxor hM hd hS hp k
  | lshl => exact ok_lshl hM hd hS hp k
  | lshr => exact ok_lshr hM hd hS hp k
  | lcmp => exact ok_lcmp hM hd hS hp k
  | idiv => exact ok_idiv hM hd hS hp k
  | ineg => exact ok_ineg hM hd hS hp k
  | i2l => exact ok_i2l hM hd hS hp k
  | l2i => exact ok_l2i hM hd hS hp k
  | dup => exact ok_dup hM hd hS hp k
  | pop => exact ok_pop hM hd hS hp k
  | dup2 => exact ok_dup2 hM hd hS hp k
  | goto => exact ok_goto hM hd hS hp k
  | if_icmp => exact ok_icmp hM hd hS hp k
  | ifCond => exact ok_ifc hM hd hS hp k
  | ifnull => exact ok_ifnull hM hd hS hp k
  | ifnonnull => exact ok_ifnonnull hM hd hS hp k
  | tableswitch => exact ok_table hM hd hS hp k
  | lookupswitch => exact ok_lookup hM hd hS hp k
  | getfield => exact ok_get hM hd hS hp k
  | putfield => exact ok_put hM hd hS hp k
  | iaload => exact ok_iaload hM hd hS hp k
  | baload => exact ok_baload hM hd hS hp k
  | iastore => exact ok_iastore hM hd hS hp k
  | bastore => exact ok_bastore hM hd hS hp k
  | arraylength => exact ok_alen hM hd hS hp k
  | iinc => exact ok_iinc hM hd hS hp k
  | invokevirtual => exact ok_invV hM hd hS hp k
  | invokestatic => exact ok_invS hM hd hS hp k
  | _ => exact nn hS
end WS
end
section
/-! returns -/
theorem fevl_mono {vs ws : List Int} (hm : ∀ (i : Nat) (z : Int), vs[i]? = some z → ws[i]? = some z) : ∀ (L : List (Nat × Int)) (r : Int), fevl vs L = some r → fevl ws L = some r := by
  intro L
  induction L with
  | nil => intro r hr; exact hr
  | cons q t ih =>
    intro r hr
    rw [fevl] at hr ⊢
    cases hx : vs[q.1]? with
    | none => rw [hx] at hr; simp at hr
    | some x =>
      cases ht : fevl vs t with
      | none => rw [hx, ht] at hr; simp at hr
      | some u =>
        rw [hx, ht] at hr
        rw [hm _ _ hx, ih u ht]
        exact hr
theorem fev_mono {vs ws : List Int} {F : aF} {z : Int} (hm : ∀ (i : Nat) (z : Int), vs[i]? = some z → ws[i]? = some z) (h : fev vs F = some z) : fev ws F = some z := by
  rw [fev] at h ⊢
  cases hL : fevl vs F.1 with
  | none => rw [hL] at h; simp at h
  | some r => rw [hL] at h; rw [fevl_mono hm _ _ hL]; exact h
theorem idv_ev {vs ev : List Int} (hm : ∀ (i : Nat) (z : Int), ev[i]? = some z → vs[i]? = some z) : idv vs (List.range ev.length) ev := by
  rw [idv]
  apply List.ext_getElem?
  intro j
  rw [List.getElem?_map, List.getElem?_map]
  rcases Nat.lt_or_ge j ev.length with hj | hj
  · rw [List.getElem?_range hj, List.getElem?_eq_getElem hj]
    show some (vs[j]?) = _
    rw [hm j _ (List.getElem?_eq_getElem hj)]
    rfl
  · rw [List.getElem?_eq_none (by simpa using hj), List.getElem?_eq_none hj]
    rfl
section RT
variable {TT : List (List aCT)} {g : jG} {EI : aB → jH → Prop} {bk0 : aB} {h0 : jH} {ev : List Int} {vs : List Int} {bk : aB} {al : List (Option Value)} {st : List Value} {h : jH} {env : List aE} {fc : List aF} {loc : List (Option aV)} {stk : List aV} {ov : List aO} {pr : List Nat} {l : Launch} {d pc kc ks : Nat} {len : Nat}
theorem i32_eq {x : Int32} {n : Int32} (h : x.toInt = n.toInt) : x = n := Int32.toInt_inj.mp h
theorem aRetV_int {zs os : List Int} {m : List Nat} {v : aV} {bl : Bool} {q : aQ} {x : Int32} {post : List aF} (he : envOK vs env fc) (hi : idv vs m ev) (hv0 : Nat.beq v.1 0 = true) (hx : vs[v.2.1]? = some x.toInt) (hr : aRetV env fc m v bl q = true) (hpo : postOK (ev ++ os ++ [x.toInt]) post) : ansOK g bk ev os post (some (.int x)) q ∧ (bl = true → x = 0 ∨ x = 1) := by
  obtain ⟨qk, qlo, qhi, qa, qb, qt⟩ := q
  have hv := Nat.eq_of_beq_eq_true hv0
  match qk, hr with
  | 0, hr =>
    rw [aRetV] at hr
    simp only [Bool.and_eq_true] at hr
    obtain ⟨⟨⟨-, r1⟩, r2⟩, r3⟩ := hr
    refine ⟨⟨x, rfl, aWithin_ok he r1 hx, ?_, hpo⟩, fun hb => ?_⟩
    · cases qt with
      | nil => exact Or.inl rfl
      | cons F t =>
        simp only [Bool.or_eq_true, Bool.and_eq_true] at r3
        rcases r3 with ⟨a1, a2⟩ | ⟨⟨a1, a2⟩, a3⟩
        · have := aWithin_ok he a1 hx
          exact Or.inr (Or.inl ⟨by omega, entA_ok he hi a2⟩)
        · have := aWithin_ok he a1 hx
          cases hs : fsubA env m (F :: t) with
          | none => rw [hs] at a3; cases a3
          | some G =>
            obtain ⟨s1, -, -⟩ := fsubA_ok he.2.1 hi hs
            refine Or.inr (Or.inr ⟨by omega, s1, ?_⟩)
            obtain ⟨F2, f1, f2⟩ := List.any_eq_true.mp a2
            obtain ⟨w, w1⟩ := s1 F2 f1
            obtain ⟨z, z1, z2⟩ := entA_ok he hi f2 _ List.mem_cons_self
            rw [fadd1 (fneg1 w1)] at z1
            have z3 := Option.some.inj z1
            exact ⟨F2, f1, w, w1, by omega⟩
    · subst hb
      simp only [Bool.not_true, Bool.false_or] at r2
      have b := aWithin_ok he (by simpa using r2) hx
      rcases (show x.toInt = 0 ∨ x.toInt = 1 by omega) with e | e
      · exact Or.inl (i32_eq (by rw [e]; rfl))
      · exact Or.inr (i32_eq (by rw [e]; rfl))
  | 1, hr => exact absurd (show false = true from hr) (by decide)
  | 2, hr =>
    rw [aRetV] at hr
    simp only [Bool.and_eq_true] at hr
    rw [hv] at hr
    exact absurd hr.1.1 (by decide)
  | 3, hr => exact absurd (show false = true from hr) (by decide)
  | 4, hr => exact absurd (show false = true from hr) (by decide)
  | 5, hr =>
    rw [aRetV] at hr
    simp only [Bool.and_eq_true, decide_eq_true_eq] at hr
    obtain ⟨⟨⟨⟨⟨-, r1⟩, r2⟩, r3⟩, r4⟩, r5⟩ := hr
    have r2 := blt_lt r2
    have hb := aWithin_ok he r3 hx
    have hl := lin_ok he.2.1 hx
    refine ⟨?_, fun hb => by rw [hb] at r1; cases r1⟩
    cases hL : fevl vs (lin env v.2.1).1 with
    | none => rw [fev, hL] at hl; simp at hl
    | some r =>
      rw [fev_of hL] at hl
      have hl := Option.some.inj hl
      have hm := fevl_mod _ _ r4 hL
      have hd : (x.toInt - qlo) % (qa : Int) = 0 := by
        rw [← hl, show r + (lin env v.2.1).2 - qlo = r + ((lin env v.2.1).2 - qlo) by omega, Int.add_emod, hm, r5]
        simp
      have hq : (qa : Int) * ((x.toInt - qlo) / (qa : Int)) = x.toInt - qlo := Int.mul_ediv_cancel' (Int.dvd_of_emod_eq_zero hd)
      have hpos : (0 : Int) < (qa : Int) := by omega
      refine ⟨x, (x.toInt - qlo) / (qa : Int), rfl, Int.ediv_nonneg (by omega) (by omega), ?_, by show x.toInt = qlo + (qa : Int) * _; omega, hpo⟩
      show (x.toInt - qlo) / (qa : Int) ≤ qhi
      apply Int.ediv_le_of_le_mul hpos
      rw [Int.mul_comm]
      omega
  | n + 6, hr => exact absurd (show false = true from hr) (by decide)
theorem aRet_ok {K : aK} {i : Instr} {W : List aR} (hW : W = K.2.2.2.2.2.2.2.1) (hn : ev.length = kN K) (hd : decode (jbC K.1) pc = .ok (i, len)) (hr : aRet TT K i len env fc stk ov = true) (hp : PT TT g EI W bk0 h0 ev K.1 vs bk al st h (env, fc, loc, stk, ov, pr)) : J l g K.1 d pc al st h kc ks (kPost TT g EI K bk0 h0 ev) := by
  subst hW
  rw [aRet] at hr
  cases hc : clIds TT K.2.2.2.2.2.1 env ov fc with
  | none => rw [hc] at hr; cases hr
  | some r =>
    rw [hc] at hr
    dsimp only at hr
    obtain ⟨ws, zs, hP, j1, j2⟩ := clIds_ok _ vs env ov r hc hp
    have hev : idv (vs ++ ws) (List.range (kN K)) ev := by rw [← hn]; exact idv_ev hP.2.2.2
    split at hr
    · simp only [Bool.and_eq_true, decide_eq_true_eq] at hr
      obtain ⟨⟨⟨r1, r2⟩, r3⟩, r4⟩ := hr
      have hlen := Nat.eq_of_beq_eq_true r1
      subst hlen
      obtain ⟨q, q1, q2⟩ := List.any_eq_true.mp r3
      have hst : st = [] := by
        have := hp.1.2.2.2.2.1
        cases st with
        | nil => rfl
        | cons => exact absurd this id
      refine j_ret (v := none) ⟨hd, r2⟩ ⟨bk, zs, hP.2.1, j2, q, q1, ?_⟩ hst
      obtain ⟨qk, qlo, qhi, qa, qb, qt⟩ := q
      have q2 := Nat.eq_of_beq_eq_true q2
      dsimp only at q2
      subst q2
      exact ⟨rfl, entA_ok hP.ee (hev.cat j1) r4⟩
    · rename_i v
      simp only [Bool.and_eq_true, Bool.or_eq_true, decide_eq_true_eq] at hr
      obtain ⟨⟨⟨⟨r1, r0⟩, r2⟩, r3⟩, r4⟩ := hr
      have hlen := Nat.eq_of_beq_eq_true r1
      subst hlen
      obtain ⟨q, q1, q2⟩ := List.any_eq_true.mp r3
      obtain ⟨w1, s1, e1, e2, -⟩ := hP.pop
      obtain ⟨x, rfl, hx⟩ := e2.int r0
      have hst : s1 = [] := by
        have := hp.1.2.2.2.2.1
        rw [e1] at this
        cases s1 with
        | nil => rfl
        | cons => exact absurd this.2 id
      subst hst
      have hpo := entA_ok hP.ee ((hev.cat j1).cat (show idv (vs ++ ws) [v.2.1] [x.toInt] by rw [idv, List.map_cons, hx]; rfl)) r4
      obtain ⟨a1, a2⟩ := aRetV_int (g := g) (bk := bk) (zs := zs) (os := zs) hP.ee hev r0 hx q2 hpo
      refine j_ret (v := some (.int x)) ⟨hd, ?_⟩ ⟨bk, zs, hP.2.1, j2, q, q1, a1⟩ e1
      rcases r2 with r2 | r2
      · exact Or.inl r2
      · exact Or.inr (Or.inl ⟨of_decide_eq_true r2, a2 r2⟩)
    · rename_i v
      simp only [Bool.and_eq_true] at hr
      obtain ⟨⟨⟨r1, r2⟩, r3⟩, r4⟩ := hr
      have hlen := Nat.eq_of_beq_eq_true r1
      subst hlen
      obtain ⟨q, q1, q2⟩ := List.any_eq_true.mp r3
      simp only [Bool.and_eq_true] at q2
      obtain ⟨qk, qlo, qhi, qa, qb, qt⟩ := q
      obtain ⟨q2, q3⟩ := q2
      have q2 := Nat.eq_of_beq_eq_true q2
      dsimp only at q2
      subst q2
      rw [aRetV] at q3
      simp only [Bool.and_eq_true] at q3
      obtain ⟨⟨q3, q4⟩, q5⟩ := q3
      have q4 := Nat.eq_of_beq_eq_true q4
      have q5 := Nat.eq_of_beq_eq_true q5
      obtain ⟨w1, s1, e1, e2, -⟩ := hP.pop
      obtain ⟨b, hb, rfl⟩ := e2.rf q3
      have hst : s1 = [] := by
        have := hp.1.2.2.2.2.1
        rw [e1] at this
        cases s1 with
        | nil => rfl
        | cons => exact absurd this.2 id
      subst hst
      refine j_ret (v := some (jad g b v.2.2)) ⟨hd, ?_⟩ ⟨bk, zs, hP.2.1, j2, _, q1, ⟨b, by rw [← q4]; exact hb, by rw [← q5]⟩, entA_ok hP.ee (hev.cat j1) r4⟩ e1
      split at r2
      · rename_i n hn2
        exact ⟨n, hn2⟩
      · cases r2
    · cases hr
end RT
end
section
/-! cuts, walks, contracts -/
section WK
variable {TT : List (List aCT)} {g : jG} {EI : aB → jH → Prop} {P : List aR} {bk0 : aB} {h0 : jH} {ev ev' : List Int} {vs : List Int} {bk : aB} {al : List (Option Value)} {st : List Value} {h : jH} {env : List aE} {fc : List aF} {loc : List (Option aV)} {stk : List aV} {ov : List aO} {pr : List Nat} {l : Launch} {d pc kc ks : Nat} {Q : Option Value → jH → Prop} {KT : List aK} {KI : List (List Nat)} {own n : Nat}
/-- from a cut, with the measure μ, the method goes on to its end -/
def CutP (TT : List (List aCT)) (g : jG) (EI : aB → jH → Prop) (bk0 : aB) (h0 : jH) (ev : List Int) (l : Launch) (d : Nat) (Q : Option Value → jH → Prop) (K : aK) (C : aCu) (μ : Int) : Prop :=
  ∀ (vs : List Int) (bk : aB) (al : List (Option Value)) (h : jH), PT TT g EI K.2.2.2.2.2.2.2.1 bk0 h0 ev K.1 vs bk al [] h (spState (kEnv K) C.2.1 C.2.2.1 C.2.2.2.1 C.2.2.2.2.2) → fev vs C.2.2.2.2.1 = some μ → J l g K.1 d C.1 al [] h K.2.2.2.2.2.2.2.2.2.1 K.2.2.2.2.2.2.2.2.2.2 Q
theorem aCut_ok {K : aK} {C : aCu} {m0 : Option aF} (hE : eIv ev (kEnv K)) (hn : ev.length = kN K) (hpre : ∀ (i : Nat) (z : Int), ev[i]? = some z → ev'[i]? = some z) (hc : aCut TT K C m0 kc ks env fc loc stk ov pr = true) (hp : PT TT g EI K.2.2.2.2.2.2.2.1 bk0 h0 ev' K.1 vs bk al st h (env, fc, loc, stk, ov, pr)) (ih : ∀ μ', 0 ≤ μ' → (∀ F μ, m0 = some F → fev ev' F = some μ → μ' < μ) → CutP TT g EI bk0 h0 ev l d Q K C μ') : J l g K.1 d C.1 al st h kc ks Q := by
  cases stk with
  | cons v t => exact absurd (show false = true from hc) (by decide)
  | nil =>
    have hst : st = [] := by
      have := hp.1.2.2.2.2.1
      cases st with
      | nil => rfl
      | cons => exact absurd this id
    subst hst
    rw [aCut] at hc
    cases hs : spIds env fc loc C.2.1 with
    | none => rw [hs] at hc; cases hc
    | some pids =>
      rw [hs] at hc
      dsimp only at hc
      cases hr : clIds TT C.2.2.1 env ov fc with
      | none => rw [hr] at hc; cases hc
      | some r =>
        rw [hr] at hc
        simp only [Bool.and_eq_true] at hc
        obtain ⟨⟨⟨⟨c1, c2⟩, c3⟩, c4⟩, c5⟩ := hc
        obtain ⟨zs, i1, i2, i3⟩ := spIds_ok (g := g) (bk := bk) hp.ee C.2.1 loc al pids hs hp.1.2.2.2.1
        obtain ⟨ws, zc, hP, j1, j2⟩ := clIds_ok _ vs env ov r hr hp
        have hev : idv (vs ++ ws) (List.range (kN K)) ev := by rw [← hn]; exact idv_ev (fun i z hz => hP.2.2.2 i z (hpre i z hz))
        have hid := (hev.cat i1.app).cat j1
        cases hG : fsub r.1 (List.range (kN K) ++ pids ++ r.2.2) C.2.2.2.2.1 with
        | none => rw [hG] at c5; cases c5
        | some G =>
          rw [hG] at c5
          simp only [Bool.and_eq_true] at c5
          obtain ⟨c5, c6⟩ := c5
          obtain ⟨μ', u1, u2⟩ := fsub_ok hP.ee.2.1 hid hG
          obtain ⟨z, z1, z2⟩ := ent_ok hP.ee.1 hP.ee.2.2 c5
          rw [u2] at z1
          have z3 := Option.some.inj z1
          have e1 := Nat.eq_of_beq_eq_true c1
          have e2 := Nat.eq_of_beq_eq_true c2
          rw [e1, e2]
          refine ih μ' (by omega) (fun F μ hF hμ => ?_) (ev ++ zs ++ zc) bk al h ?_ u1
          · subst hF
            dsimp only at c6
            obtain ⟨w, w1, w2⟩ := ent_ok hP.ee.1 hP.ee.2.2 c6
            rw [fadd1 (fadd_ok (fev_mono hP.2.2.2 hμ) u2)] at w1
            have w3 := Option.some.inj w1
            omega
          · refine ⟨⟨(hE.appl i2).appl (out_bd j2), eFm_plain (plain_app (plain_app (plain_app (spEnv_plain _) clEnv_plain) (spEnv_plain _)) clEnv_plain), entA_ok hP.ee hid c4, ?_, trivial, ?_, ?_⟩, hP.2.1, hP.2.2.1, fun i z hz => getE_app (getE_app hz)⟩
            · intro i v hi
              exact i3 ev zc i v (by rw [← hE.1]; exact hi)
            · intro q hq
              obtain ⟨j, c, h1, rfl⟩ := clOv_mem _ _ _ hq
              have hj : j < zc.length := by rw [j2.1]; exact (List.getElem?_eq_some_iff.mp h1).1
              have hx : zc[j]? = some zc[j] := List.getElem?_eq_getElem hj
              obtain ⟨-, b, cc, k1, k2, k3⟩ := j2.2 j c _ h1 hx
              refine ⟨_, b, cc, zc[j], fcon_ok, k1, k2, k3, ?_⟩
              show (ev ++ zs ++ zc)[(kEnv K).length + (spEnv C.2.1).length + j]? = _
              have hl : (kEnv K).length + (spEnv C.2.1).length = (ev ++ zs).length := by rw [hE.1, i2.1, List.length_append]
              rw [hl, getE_right (by omega), show (ev ++ zs).length + j - (ev ++ zs).length = j by omega]
              exact hx
            · intro B hB
              have := List.all_eq_true.mp c3 B hB
              exact hP.1.2.2.2.2.2.2 B (List.contains_iff_mem.mp this)
theorem spId_ok {ev : List Int} {W : List aR} {y : Nat} {S : aS} {q : aSp} {i : Nat} (hp : PT TT g EI W bk0 h0 ev y vs bk al st h S) (hi : spId S q = some i) : ∃ z, vs[i]? = some z := by
  obtain ⟨env, fc, loc, stk, ov, pr⟩ := S
  rw [spId] at hi
  split at hi
  · obtain ⟨z, b, c, x, -, -, -, -, h5⟩ := hp.1.2.2.2.2.2.1 _ (ovFind_mem hi)
    exact ⟨_, h5⟩
  · split at hi
    · rename_i v hv
      cases hb : Nat.ble v.1 1 with
      | false => rw [hb] at hi; cases hi
      | true =>
        rw [hb] at hi
        cases hi
        obtain ⟨w, w1, w2⟩ := hp.1.2.2.2.1 _ _ hv
        have h1 := Nat.le_of_ble_eq_true hb
        rw [vOK] at w2
        match hk : v.1, h1, w2 with
        | 0, _, w2 => exact ⟨_, w2.choose_spec.2⟩
        | 1, _, w2 => exact ⟨_, w2.choose_spec.2⟩
    · cases hi
  · split at hi
    · rename_i v hv
      cases hb : Nat.ble v.1 1 with
      | false => rw [hb] at hi; cases hi
      | true =>
        rw [hb] at hi
        cases hi
        obtain ⟨w, w1, w2⟩ := (sk_at _ _ hp.1.2.2.2.2.1).2 _ _ hv
        have h1 := Nat.le_of_ble_eq_true hb
        rw [vOK] at w2
        match hk : v.1, h1, w2 with
        | 0, _, w2 => exact ⟨_, w2.choose_spec.2⟩
        | 1, _, w2 => exact ⟨_, w2.choose_spec.2⟩
    · cases hi
theorem spl1_ok {ev : List Int} {W : List aR} {y : Nat} {S : aS} {q : aSp} (hp : PT TT g EI W bk0 h0 ev y vs bk al st h S) : ∃ S' ∈ spl1 q S, PT TT g EI W bk0 h0 ev y vs bk al st h S' := by
  rw [spl1]
  cases hi : spId S q with
  | none => exact ⟨S, List.mem_cons_self, hp⟩
  | some i =>
    obtain ⟨z, hz⟩ := spId_ok hp hi
    obtain ⟨env, fc, loc, stk, ov, pr⟩ := S
    have hF : fev vs (fadd 1 (lin env i) (fcon (-q.2.2.2.2.2))) = some (z + -q.2.2.2.2.2) := fadd1 (lin_ok hp.ee.2.1 hz)
    dsimp only
    cases hg : isTg env i with
    | true =>
      simp only [cond_true]
      by_cases hc : z = 0
      · obtain ⟨r, g1, g2⟩ := tAsm_ok (c := .eq) hp.ee hz (show z = 0 from hc)
        refine ⟨(r.1, r.2, loc, stk, ov, pr), List.mem_append_left _ ?_, hp.setE g2⟩
        show _ ∈ brS (tAsm env fc .eq _) _
        rw [g1]
        exact List.mem_cons_self
      · obtain ⟨r, g1, g2⟩ := tAsm_ok (c := .ne) hp.ee hz (show z ≠ 0 from hc)
        refine ⟨(r.1, r.2, loc, stk, ov, pr), List.mem_append_right _ ?_, hp.setE g2⟩
        show _ ∈ brS (tAsm env fc .ne _) _
        rw [g1]
        exact List.mem_cons_self
    | false =>
    simp only [cond_false]
    by_cases hc : z ≤ q.2.2.2.2.2
    · obtain ⟨r, g1, g2⟩ := cAsm_ok (c := .le) hp.ee hF (show z + -q.2.2.2.2.2 ≤ 0 by omega)
      refine ⟨(r.1, r.2, loc, stk, ov, pr), List.mem_append_left _ ?_, hp.setE g2⟩
      show _ ∈ brS (cAsm env fc .le _) _
      rw [g1]
      exact List.mem_cons_self
    · obtain ⟨r, g1, g2⟩ := cAsm_ok (c := .gt) hp.ee hF (show 0 < z + -q.2.2.2.2.2 by omega)
      refine ⟨(r.1, r.2, loc, stk, ov, pr), List.mem_append_right _ ?_, hp.setE g2⟩
      show _ ∈ brS (cAsm env fc .gt _) _
      rw [g1]
      exact List.mem_cons_self
theorem spl_ok {ev : List Int} {W : List aR} {y pc : Nat} : ∀ (sp : List aSp) (S : aS), PT TT g EI W bk0 h0 ev y vs bk al st h S → ∃ S' ∈ spl pc sp S, PT TT g EI W bk0 h0 ev y vs bk al st h S' := by
  intro sp
  induction sp with
  | nil => intro S hp; exact ⟨S, List.mem_cons_self, hp⟩
  | cons q t ih =>
    intro S hp
    rw [spl]
    cases hb : Nat.beq q.1 pc with
    | false => simp only [cond_false]; exact ih S hp
    | true =>
      simp only [cond_true]
      obtain ⟨S1, h1, hp1⟩ := spl1_ok (q := q) hp
      obtain ⟨S2, h2, hp2⟩ := ih S1 hp1
      exact ⟨S2, List.mem_flatMap.mpr ⟨S1, h1, h2⟩, hp2⟩
theorem chk_ok {K : aK} {cs : List aCu} {sp : List aSp} {m0 : Option aF} (hM : mOK TT g EI P KT l K.1 own n) (hE : eIv ev (kEnv K)) (hn : ev.length = kN K) (hpre : ∀ (i : Nat) (z : Int), ev[i]? = some z → ev'[i]? = some z)
    (hcut : ∀ C ∈ cs, ∀ μ', 0 ≤ μ' → (∀ F μ, m0 = some F → fev ev' F = some μ → μ' < μ) → CutP TT g EI bk0 h0 ev l d (kPost TT g EI K bk0 h0 ev) K C μ') :
    ∀ (fuel : Nat) (first : Bool) (pc : Nat) (S : aS) (kc ks : Nat), chk (TT, KT, KI, K.2.2.2.2.2.2.2.1, P, K.1, own, d, n) K cs sp m0 fuel first pc S kc ks = true → Go TT g EI K.2.2.2.2.2.2.2.1 bk0 h0 ev' K.1 l d (kPost TT g EI K bk0 h0 ev) pc S kc ks := by
  intro fuel
  induction fuel with
  | zero => intro first pc S kc ks hc; exact absurd (show false = true from hc) (by decide)
  | succ fuel ih =>
    intro first pc S kc ks hc vs bk al st h hp
    obtain ⟨env, fc, loc, stk, ov, pr⟩ := S
    rw [chk] at hc
    cases hf : (bif first then none else cutAt cs pc) with
    | some C =>
      rw [hf] at hc
      dsimp only at hc
      have hf2 : cutAt cs pc = some C := by
        cases first with
        | true => cases hf
        | false => exact hf
      rw [cutAt] at hf2
      have h1 := List.mem_of_find?_eq_some hf2
      have h2 : C.1 = pc := Nat.eq_of_beq_eq_true (List.find?_some (p := fun C : aCu => Nat.beq C.1 pc) hf2)
      rw [← h2]
      exact aCut_ok hE hn hpre hc hp (hcut C h1)
    | none =>
      rw [hf] at hc
      dsimp only at hc
      cases hd0 : dcF K.1 pc with
      | error e => rw [hd0] at hc; cases hc
      | ok q =>
        rw [hd0] at hc
        have hd := dQ hd0
        dsimp only at hc
        obtain ⟨S', hS', hp'⟩ := spl_ok sp _ hp
        have hc := List.all_eq_true.mp hc S' hS'
        obtain ⟨env', fc', loc', stk', ov', pr'⟩ := S'
        clear hp
        have hp := hp'
        clear hp'
        cases hr : isRet q.1 with
        | true =>
          rw [hr] at hc
          simp only [cond_true] at hc
          exact aRet_ok rfl hn hd hc ⟨hp.1, hp.2.1, hp.2.2.1, fun i z hz => hp.2.2.2 i z (hpre i z hz)⟩
        | false =>
          rw [hr] at hc
          simp only [cond_false] at hc
          split at hc
          · rename_i L hL
            exact aStep_ok hM hd hL hp (fun r hr => ih false r.1 r.2.1 r.2.2.1 r.2.2.2 (List.all_eq_true.mp hc r hr))
          · cases hc
theorem jal_len {y : Nat} {av : List Value} (hl : (lg_sl av).length ≤ jmx y) : (jal y av).length = jmx y := by
  rw [lg_jargs] at hl
  rw [jal, List.length_append, List.length_replicate]
  omega
/-- all cuts at once, whatever the measure -/
theorem cuts_ok {fuel : Nat} {K : aK} {cs : List aCu} {sp : List aSp} (hM : mOK TT g EI P KT l K.1 own n) (hE : eIv ev (kEnv K)) (hn : ev.length = kN K)
    (c5 : cs.all (fun C => Nat.beq C.2.1.length (jmx K.1) && chk (TT, KT, KI, K.2.2.2.2.2.2.2.1, P, K.1, own, K.2.2.2.2.2.2.2.2.1, n) K cs sp (some C.2.2.2.2.1) fuel true C.1 (spState (kEnv K) C.2.1 C.2.2.1 C.2.2.2.1 C.2.2.2.2.2) K.2.2.2.2.2.2.2.2.2.1 K.2.2.2.2.2.2.2.2.2.2) = true) :
    ∀ C ∈ cs, ∀ μ : Int, 0 ≤ μ → CutP TT g EI bk0 h0 ev l K.2.2.2.2.2.2.2.2.1 (kPost TT g EI K bk0 h0 ev) K C μ := by
  have main : ∀ (m : Nat) (C : aCu), C ∈ cs → ∀ μ : Int, 0 ≤ μ → μ < m → CutP TT g EI bk0 h0 ev l K.2.2.2.2.2.2.2.2.1 (kPost TT g EI K bk0 h0 ev) K C μ := by
    intro m
    induction m with
    | zero => intro C hC μ u1 u2; omega
    | succ m ih =>
      intro C hC μ u1 u2 vs bk2 al h2 hp hμ
      have h1 := List.all_eq_true.mp c5 C hC
      simp only [Bool.and_eq_true] at h1
      exact chk_ok (ev' := vs) hM hE hn hp.2.2.2 (fun C' hC' μ' v1 v2 => ih C' hC' μ' v1 (by have := v2 _ μ rfl hμ; omega)) fuel true C.1 _ _ _ h1.2 vs bk2 al [] h2 ⟨hp.1, hp.2.1, hp.2.2.1, fun i z hz => hz⟩
  exact fun C hC μ u => main (μ.toNat + 1) C hC μ u (by omega)
theorem kchk_ok {fuel k own : Nat} {cs : List aCu} {sp : List aSp} {K : aK} (hT : tyCl TT = true) (hT2 : tySg TT = true) (hEI : eiOK TT g EI P) (hlow : ∀ (k' : Nat) (K' : aK), KT[k']? = some K' → k' < k → kOK TT g EI l K') (hK : KT[k]? = some K) (hpl : plainName (jyN K.1).cls = true) (hc : kchk TT KT KI P fuel k own cs sp = true) : kOK TT g EI l K := by
  rw [kchk, hK] at hc
  simp only [Bool.and_eq_true, decide_eq_true_eq] at hc
  obtain ⟨⟨⟨⟨c1, c2⟩, c3⟩, c4⟩, c5⟩ := hc
  have hM : mOK TT g EI P KT l K.1 own k := ⟨hT, hT2, hEI, c1, hlow⟩
  intro bk h av ev hHT hBD hEv hb1 hl hn _ hg
  refine jCal_of hpl hl ?_
  have main : ∀ (m : Nat) (C : aCu), C ∈ cs → ∀ μ : Int, 0 ≤ μ → μ < m → CutP TT g EI bk h ev l K.2.2.2.2.2.2.2.2.1 (kPost TT g EI K bk h ev) K C μ := by
    intro m
    induction m with
    | zero => intro C hC μ u1 u2; omega
    | succ m ih =>
      intro C hC μ u1 u2 vs bk2 al h2 hp hμ
      have h1 := List.all_eq_true.mp c5 C hC
      simp only [Bool.and_eq_true] at h1
      exact chk_ok (ev' := vs) hM hg.1 hn hp.2.2.2 (fun C' hC' μ' v1 v2 => ih C' hC' μ' v1 (by have := v2 _ μ rfl hμ; omega)) fuel true C.1 _ _ _ h1.2 vs bk2 al [] h2 ⟨hp.1, hp.2.1, hp.2.2.1, fun i z hz => hz⟩
  have hcut : ∀ C ∈ cs, ∀ μ', 0 ≤ μ' → (∀ F μ, (none : Option aF) = some F → fev ev F = some μ → μ' < μ) → CutP TT g EI bk h ev l K.2.2.2.2.2.2.2.2.1 (kPost TT g EI K bk h ev) K C μ' := fun C hC μ' v1 _ => main (μ'.toNat + 1) C hC μ' v1 (by omega)
  refine chk_ok (ev' := ev) hM hg.1 hn (fun i z hz => hz) hcut fuel true 0 _ _ _ c4 ev bk (jal K.1 av) [] h ⟨?_, ⟨hHT, hBD, hEv, UN.rf, fun B b hb => hb, hb1⟩, jal_len hl, fun i z hz => hz⟩
  have e : spState [] K.2.1 K.2.2.1 K.2.2.2.1 [] = (kEnv K, K.2.2.2.1, spLoc 0 K.2.1, [], clOv (spEnv K.2.1).length K.2.2.1, []) := by simp [spState, kEnv]
  rw [e]
  exact hg
end WK
end
section
def TT_0 : List aCT := [.inr (11, [(2, 0, 0, 0, 1), (3, 0, 0, 2, 0), (3, 0, 0, 3, 0), (2, 0, 0, 0, 49), (0, 0, 400, 0, 0), (2, 0, 0, 0, 50), (0, -2147483648, 2147483647, 0, 0), (0, -2147483648, 2147483647, 0, 0), (2, 0, 0, 0, 61), (3, 0, 0, 4, 0), (3, 0, 0, 5, 0), (3, 0, 0, 6, 0)]), .inr (7, [(2, 0, 0, 0, 2), (2, 0, 0, 0, 4), (2, 0, 0, 0, 11), (0, 0, 1, 0, 0), (0, 0, 9999, 0, 0), (0, -2147483648, 2147483647, 0, 0), (2, 0, 0, 0, 18), (2, 0, 0, 0, 20), (2, 0, 0, 0, 22), (2, 0, 0, 0, 23), (2, 0, 0, 0, 24), (2, 0, 0, 0, 25), (2, 0, 0, 0, 26), (2, 0, 0, 0, 27), (2, 0, 0, 0, 28), (2, 0, 0, 0, 29), (2, 0, 0, 0, 30), (2, 0, 0, 0, 34), (2, 0, 0, 0, 37), (2, 0, 0, 0, 44)]), .inr (0, [(2, 0, 0, 0, 3), (0, -2147483648, 2147483647, 0, 0), (0, -2147483648, 2147483647, 0, 0)]), .inl (0, 12, [(0, 12, 1, [(0, 999)])]), .inr (5, [(0, 0, 16, 0, 0), (2, 0, 0, 0, 5), (2, 0, 0, 0, 6), (2, 0, 0, 0, 7), (2, 0, 0, 0, 8), (0, 0, 200, 0, 0), (2, 0, 0, 0, 9), (2, 0, 0, 0, 10)]), .inl (0, 16, [(0, 16, 1, [(0, 11)])]), .inl (0, 16, [(0, 16, 1, [(-1, 11)])]), .inl (0, 16, [(0, 16, 1, [(0, 200)])]), .inl (0, 16, [(0, 16, 1, [(0, 200)])]), .inl (0, 200, [(0, 200, 1, [(-2147483648, 2147483647)])]), .inl (0, 32, [(0, 32, 1, [(-2147483648, 2147483647)])]), .inr (5, [(0, 0, 16, 0, 0), (2, 0, 0, 0, 12), (2, 0, 0, 0, 13), (2, 0, 0, 0, 14), (2, 0, 0, 0, 15), (0, 0, 200, 0, 0), (2, 0, 0, 0, 16), (2, 0, 0, 0, 17)]), .inl (0, 16, [(0, 16, 1, [(0, 11)])]), .inl (0, 16, [(0, 16, 1, [(-1, 11)])]), .inl (0, 16, [(0, 16, 1, [(0, 200)])]), .inl (0, 16, [(0, 16, 1, [(0, 200)])]), .inl (0, 200, [(0, 200, 1, [(-2147483648, 2147483647)])]), .inl (0, 32, [(0, 32, 1, [(-2147483648, 2147483647)])]), .inr (4, [(0, 100, 100, 0, 0), (2, 0, 0, 0, 19), (0, 0, 99, 0, 0), (0, -2147483648, 2147483647, 0, 0)]), .inl (0, 500, [(0, 500, 1, [(-2147483648, 2147483647)])]), .inr (4, [(0, 50, 50, 0, 0), (2, 0, 0, 0, 21), (0, 0, 49, 0, 0), (0, -2147483648, 2147483647, 0, 0)]), .inl (0, 250, [(0, 250, 1, [(-2147483648, 2147483647)])]), .inl (0, 16, [(0, 16, 1, [(0, 9999)])]), .inl (0, 12, [(0, 12, 1, [(-1, 15)])]), .inl (0, 12, [(0, 12, 1, [(0, 1023)])]), .inl (0, 12, [(0, 12, 1, [(-1, 5)])]), .inl (0, 1000, [(0, 1000, 1, [(0, 999)])]), .inl (0, 1000, [(0, 1000, 1, [(0, 999)])]), .inl (0, 3, [(0, 3, 1, [(-30, 30)])]), .inl (0, 300, [(0, 300, 1, [(1, 999)])]), .inr (10, [(0, 0, 8, 0, 0), (0, -2147483648, 2147483647, 0, 0), (2, 0, 0, 0, 31), (2, 0, 0, 0, 32), (2, 0, 0, 0, 33)]), .inl (0, 8, [(0, 8, 1, [(-2147483648, 2147483647)])]), .inl (0, 8, [(0, 8, 1, [(-2147483648, 2147483647)])]), .inl (0, 8, [(0, 8, 1, [(-2147483648, 2147483647)])]), .inr (1, [(0, 0, 24, 0, 0), (2, 0, 0, 0, 35), (2, 0, 0, 0, 36), (0, 0, 1, 0, 0)]), .inl (0, 144, [(0, 144, 1, [(-1, 60)])]), .inl (0, 144, [(0, 144, 1, [(0, 1000000)])]), .inr (6, [(0, 0, 3, 0, 0), (2, 0, 0, 0, 38), (2, 0, 0, 0, 39), (2, 0, 0, 0, 40), (0, 0, 16, 0, 0), (2, 0, 0, 0, 41), (2, 0, 0, 0, 42), (2, 0, 0, 0, 43)]), .inl (0, 3, [(0, 3, 1, [(0, 999)])]), .inl (0, 3, [(0, 3, 1, [(-1, 11)])]), .inl (0, 3, [(0, 3, 1, [(0, 9999)])]), .inl (0, 16, [(0, 16, 1, [(0, 9999)])]), .inl (0, 16, [(0, 16, 1, [(0, 11)])]), .inl (0, 16, [(0, 16, 1, [(0, 999)])]), .inr (8, [(0, 0, 40, 0, 0), (2, 0, 0, 0, 45), (2, 0, 0, 0, 46), (2, 0, 0, 0, 47), (2, 0, 0, 0, 48)]), .inl (0, 40, [(0, 40, 1, [(0, 999)])]), .inl (0, 40, [(0, 40, 1, [(0, 11)])]), .inl (0, 40, [(0, 40, 1, [(0, 9999)])]), .inl (1, 40, [(0, 40, 1, [(0, 1)])]), .inl (0, 400, [(0, 400, 1, [(0, 255)])]), .inr (3, [(2, 0, 0, 0, 51), (2, 0, 0, 0, 58), (2, 0, 0, 0, 59), (2, 0, 0, 0, 60), (0, 0, 401, 0, 0), (0, 0, 400, 0, 0), (0, -2147483648, 2147483647, 0, 0)]), .inr (5, [(0, 0, 16, 0, 0), (2, 0, 0, 0, 52), (2, 0, 0, 0, 53), (2, 0, 0, 0, 54), (2, 0, 0, 0, 55), (0, 0, 200, 0, 0), (2, 0, 0, 0, 56), (2, 0, 0, 0, 57)]), .inl (0, 16, [(0, 16, 1, [(0, 11)])]), .inl (0, 16, [(0, 16, 1, [(-1, 11)])]), .inl (0, 16, [(0, 16, 1, [(0, 200)])]), .inl (0, 16, [(0, 16, 1, [(0, 200)])]), .inl (0, 200, [(0, 200, 1, [(-2147483648, 2147483647)])]), .inl (0, 32, [(0, 32, 1, [(-2147483648, 2147483647)])]), .inl (0, 401, [(0, 401, 1, [(0, 400)])]), .inl (0, 401, [(0, 400, 1, [(0, 18)]), (400, 1, 1, [(0, 0)])]), .inl (0, 401, [(0, 401, 1, [(0, 1000)])]), .inl (0, 60, [(0, 60, 1, [(0, 31)])])]
def TT_1 : List aCT := [.inr (12, [(0, -2147483648, 2147483647, 0, 0), (0, -2147483648, 2147483647, 0, 0), (2, 0, 0, 1, 1), (2, 0, 0, 1, 2), (2, 0, 0, 1, 3), (2, 0, 0, 1, 4), (0, 0, 400, 0, 0), (0, 0, 400, 0, 0), (0, 0, 400, 0, 0), (0, 0, 3, 0, 0), (1, -9223372036854775808, 9223372036854775807, 0, 0), (0, -2147483648, 2147483647, 0, 0), (0, 0, 1, 0, 0), (0, 0, 16, 0, 0), (2, 0, 0, 1, 5), (0, 0, 400, 0, 0), (2, 0, 0, 1, 6), (2, 0, 0, 1, 7), (0, -2147483648, 2147483647, 0, 0), (2, 0, 0, 1, 8), (0, 0, 400, 0, 0), (0, 0, 8, 0, 0), (2, 0, 0, 1, 9), (2, 0, 0, 1, 10), (2, 0, 0, 1, 11), (0, 0, 2060, 0, 0), (0, 0, 60, 0, 0), (2, 0, 0, 1, 12), (2, 0, 0, 1, 13), (0, -1, 60, 0, 0), (2, 0, 0, 1, 14), (2, 0, 0, 1, 15), (2, 0, 0, 1, 16), (2, 0, 0, 1, 17), (2, 0, 0, 1, 18), (2, 0, 0, 1, 19), (2, 0, 0, 1, 20), (2, 0, 0, 1, 21), (2, 0, 0, 1, 22), (2, 0, 0, 1, 23), (2, 0, 0, 1, 24), (2, 0, 0, 1, 25)]), .inl (0, 5270, [(0, 1, 1, [(0, 9999)]), (1, 1, 1, [(0, 1073741824)]), (2, 1, 1, [(0, 24)]), (3, 1, 1, [(0, 3)]), (4, 1, 1, [(0, 16)]), (5, 1, 1, [(0, 40)]), (6, 1, 1, [(-2147483648, 2147483647)]), (7, 1, 1, [(0, 1)]), (8, 1, 1, [(0, 8)]), (9, 1, 1, [(-2147483648, 2147483647)]), (10, 16, 1, [(0, 1)]), (26, 4, 1, [(-2147483648, 2147483647)]), (30, 8, 1, [(0, 1)]), (38, 2, 1, [(-2147483648, 2147483647)]), (40, 12, 1, [(0, 999)]), (52, 12, 1, [(-1, 15)]), (64, 12, 1, [(0, 1023)]), (76, 3, 1, [(-30, 30)]), (79, 1, 1, [(-2147483648, 2147483647)]), (80, 300, 1, [(1, 999)]), (380, 72, 3, [(0, 11), (0, 11), (0, 60)]), (452, 3, 1, [(0, 999)]), (455, 1, 1, [(-2147483648, 2147483647)]), (456, 48, 3, [(0, 9999), (0, 11), (0, 999)]), (504, 120, 3, [(0, 999), (0, 11), (0, 9999)]), (624, 500, 5, [(0, 9999), (0, 7), (-1, 11), (-1, 11), (0, 999)]), (1124, 6, 1, [(-2147483648, 2147483647)]), (1130, 1, 1, [(0, 16)]), (1131, 128, 8, [(0, 1), (0, 11), (-2147483648, 2147483647), (0, 1), (0, 15), (0, 400), (0, 400), (-2147483648, 2147483647)]), (1259, 1, 1, [(-2147483648, 2147483647)]), (1260, 800, 2, [(0, 13), (0, 15)]), (2060, 1, 1, [(0, 16)]), (2061, 128, 8, [(0, 1), (0, 11), (-2147483648, 2147483647), (0, 1), (0, 15), (0, 400), (0, 400), (-2147483648, 2147483647)]), (2189, 1, 1, [(-2147483648, 2147483647)]), (2190, 800, 2, [(0, 13), (0, 15)]), (2990, 10, 1, [(-2147483648, 2147483647)]), (3000, 2000, 1, [(0, 999)]), (5000, 24, 3, [(0, 11), (0, 9999), (0, 9999)]), (5024, 6, 2, [(-1, 11), (0, 9999)]), (5030, 12, 1, [(-1, 5)]), (5042, 8, 1, [(-2147483648, 2147483647)]), (5050, 16, 1, [(0, 9999)]), (5066, 1, 1, [(0, 1073741824)]), (5067, 3, 1, [(-2147483648, 2147483647)]), (5070, 200, 1, [(-2147483648, 2147483647)])]), .inl (0, 10540, [(0, 10540, 1, [(-2147483648, 2147483647)])]), .inl (1, 2, [(0, 2, 1, [(0, 1)])]), .inl (0, 400, [(0, 400, 1, [(0, 255)])]), .inl (0, 128, [(0, 128, 1, [(-2147483648, 2147483647)])]), .inl (0, 400, [(0, 400, 1, [(0, 13)])]), .inl (0, 400, [(0, 400, 1, [(0, 15)])]), .inl (0, 400, [(0, 400, 1, [(0, 13)])]), .inl (0, 12, [(0, 12, 1, [(0, 999)])]), .inl (0, 16, [(0, 16, 1, [(0, 1)])]), .inl (1, 400, [(0, 400, 1, [(0, 1)])]), .inl (0, 60, [(0, 60, 1, [(0, 15)])]), .inl (0, 60, [(0, 60, 1, [(0, 1)])]), .inl (0, 12, [(0, 12, 1, [(0, 999)])]), .inl (0, 12, [(0, 12, 1, [(0, 999)])]), .inl (0, 360, [(0, 360, 1, [(-1, 2)])]), .inl (0, 180, [(0, 180, 1, [(-2147483648, 2147483647)])]), .inl (1, 180, [(0, 180, 1, [(0, 1)])]), .inl (0, 5, [(0, 5, 1, [(-2147483648, 2147483647)])]), .inl (0, 6, [(0, 6, 1, [(-2147483648, 2147483647)])]), .inl (0, 144, [(0, 144, 1, [(0, 1000000)])]), .inl (0, 83521, [(0, 83521, 1, [(0, 1000000)])]), .inl (0, 83521, [(0, 83521, 1, [(-2147483648, 2147483647)])]), .inl (1, 4913, [(0, 4913, 1, [(0, 1)])]), .inl (1, 4913, [(0, 4913, 1, [(0, 1)])])]
def TT_2 : List aCT := [.inr (7, [(2, 0, 0, 2, 1), (2, 0, 0, 2, 3), (2, 0, 0, 2, 10), (0, 0, 1, 0, 0), (0, 0, 9999, 0, 0), (0, -2147483648, 2147483647, 0, 0), (2, 0, 0, 2, 17), (2, 0, 0, 2, 19), (2, 0, 0, 2, 21), (2, 0, 0, 2, 22), (2, 0, 0, 2, 23), (2, 0, 0, 2, 24), (2, 0, 0, 2, 25), (2, 0, 0, 2, 26), (2, 0, 0, 2, 27), (2, 0, 0, 2, 28), (2, 0, 0, 2, 29), (2, 0, 0, 2, 33), (2, 0, 0, 2, 36), (2, 0, 0, 2, 43)]), .inr (0, [(2, 0, 0, 2, 2), (0, -2147483648, 2147483647, 0, 0), (0, -2147483648, 2147483647, 0, 0)]), .inl (0, 12, [(0, 12, 1, [(0, 999)])]), .inr (5, [(0, 0, 16, 0, 0), (2, 0, 0, 2, 4), (2, 0, 0, 2, 5), (2, 0, 0, 2, 6), (2, 0, 0, 2, 7), (0, 0, 200, 0, 0), (2, 0, 0, 2, 8), (2, 0, 0, 2, 9)]), .inl (0, 16, [(0, 16, 1, [(0, 11)])]), .inl (0, 16, [(0, 16, 1, [(-1, 11)])]), .inl (0, 16, [(0, 16, 1, [(0, 200)])]), .inl (0, 16, [(0, 16, 1, [(0, 200)])]), .inl (0, 200, [(0, 200, 1, [(-2147483648, 2147483647)])]), .inl (0, 32, [(0, 32, 1, [(-2147483648, 2147483647)])]), .inr (5, [(0, 0, 16, 0, 0), (2, 0, 0, 2, 11), (2, 0, 0, 2, 12), (2, 0, 0, 2, 13), (2, 0, 0, 2, 14), (0, 0, 200, 0, 0), (2, 0, 0, 2, 15), (2, 0, 0, 2, 16)]), .inl (0, 16, [(0, 16, 1, [(0, 11)])]), .inl (0, 16, [(0, 16, 1, [(-1, 11)])]), .inl (0, 16, [(0, 16, 1, [(0, 200)])]), .inl (0, 16, [(0, 16, 1, [(0, 200)])]), .inl (0, 200, [(0, 200, 1, [(-2147483648, 2147483647)])]), .inl (0, 32, [(0, 32, 1, [(-2147483648, 2147483647)])]), .inr (4, [(0, 100, 100, 0, 0), (2, 0, 0, 2, 18), (0, 0, 99, 0, 0), (0, -2147483648, 2147483647, 0, 0)]), .inl (0, 500, [(0, 500, 1, [(-2147483648, 2147483647)])]), .inr (4, [(0, 50, 50, 0, 0), (2, 0, 0, 2, 20), (0, 0, 49, 0, 0), (0, -2147483648, 2147483647, 0, 0)]), .inl (0, 250, [(0, 250, 1, [(-2147483648, 2147483647)])]), .inl (0, 16, [(0, 16, 1, [(0, 9999)])]), .inl (0, 12, [(0, 12, 1, [(-1, 15)])]), .inl (0, 12, [(0, 12, 1, [(0, 1023)])]), .inl (0, 12, [(0, 12, 1, [(-1, 5)])]), .inl (0, 1000, [(0, 1000, 1, [(0, 999)])]), .inl (0, 1000, [(0, 1000, 1, [(0, 999)])]), .inl (0, 3, [(0, 3, 1, [(-30, 30)])]), .inl (0, 300, [(0, 300, 1, [(1, 999)])]), .inr (10, [(0, 0, 8, 0, 0), (0, -2147483648, 2147483647, 0, 0), (2, 0, 0, 2, 30), (2, 0, 0, 2, 31), (2, 0, 0, 2, 32)]), .inl (0, 8, [(0, 8, 1, [(-2147483648, 2147483647)])]), .inl (0, 8, [(0, 8, 1, [(-2147483648, 2147483647)])]), .inl (0, 8, [(0, 8, 1, [(-2147483648, 2147483647)])]), .inr (1, [(0, 0, 24, 0, 0), (2, 0, 0, 2, 34), (2, 0, 0, 2, 35), (0, 0, 1, 0, 0)]), .inl (0, 144, [(0, 144, 1, [(-1, 60)])]), .inl (0, 144, [(0, 144, 1, [(0, 1000000)])]), .inr (6, [(0, 0, 3, 0, 0), (2, 0, 0, 2, 37), (2, 0, 0, 2, 38), (2, 0, 0, 2, 39), (0, 0, 16, 0, 0), (2, 0, 0, 2, 40), (2, 0, 0, 2, 41), (2, 0, 0, 2, 42)]), .inl (0, 3, [(0, 3, 1, [(0, 999)])]), .inl (0, 3, [(0, 3, 1, [(-1, 11)])]), .inl (0, 3, [(0, 3, 1, [(0, 9999)])]), .inl (0, 16, [(0, 16, 1, [(0, 9999)])]), .inl (0, 16, [(0, 16, 1, [(0, 11)])]), .inl (0, 16, [(0, 16, 1, [(0, 999)])]), .inr (8, [(0, 0, 40, 0, 0), (2, 0, 0, 2, 44), (2, 0, 0, 2, 45), (2, 0, 0, 2, 46), (2, 0, 0, 2, 47)]), .inl (0, 40, [(0, 40, 1, [(0, 999)])]), .inl (0, 40, [(0, 40, 1, [(0, 11)])]), .inl (0, 40, [(0, 40, 1, [(0, 9999)])]), .inl (1, 40, [(0, 40, 1, [(0, 1)])])]
def TT_3 : List aCT := [.inr (7, [(2, 0, 0, 3, 1), (2, 0, 0, 3, 3), (2, 0, 0, 3, 10), (0, 0, 1, 0, 0), (0, 0, 9999, 0, 0), (0, -2147483648, 2147483647, 0, 0), (2, 0, 0, 3, 17), (2, 0, 0, 3, 19), (2, 0, 0, 3, 21), (2, 0, 0, 3, 22), (2, 0, 0, 3, 23), (2, 0, 0, 3, 24), (2, 0, 0, 3, 25), (2, 0, 0, 3, 26), (2, 0, 0, 3, 27), (2, 0, 0, 3, 28), (2, 0, 0, 3, 29), (2, 0, 0, 3, 33), (2, 0, 0, 3, 36), (2, 0, 0, 3, 43)]), .inr (0, [(2, 0, 0, 3, 2), (0, -2147483648, 2147483647, 0, 0), (0, -2147483648, 2147483647, 0, 0)]), .inl (0, 12, [(0, 12, 1, [(0, 999)])]), .inr (5, [(0, 0, 16, 0, 0), (2, 0, 0, 3, 4), (2, 0, 0, 3, 5), (2, 0, 0, 3, 6), (2, 0, 0, 3, 7), (0, 0, 200, 0, 0), (2, 0, 0, 3, 8), (2, 0, 0, 3, 9)]), .inl (0, 16, [(0, 16, 1, [(0, 11)])]), .inl (0, 16, [(0, 16, 1, [(-1, 11)])]), .inl (0, 16, [(0, 16, 1, [(0, 200)])]), .inl (0, 16, [(0, 16, 1, [(0, 200)])]), .inl (0, 200, [(0, 200, 1, [(-2147483648, 2147483647)])]), .inl (0, 32, [(0, 32, 1, [(-2147483648, 2147483647)])]), .inr (5, [(0, 0, 16, 0, 0), (2, 0, 0, 3, 11), (2, 0, 0, 3, 12), (2, 0, 0, 3, 13), (2, 0, 0, 3, 14), (0, 0, 200, 0, 0), (2, 0, 0, 3, 15), (2, 0, 0, 3, 16)]), .inl (0, 16, [(0, 16, 1, [(0, 11)])]), .inl (0, 16, [(0, 16, 1, [(-1, 11)])]), .inl (0, 16, [(0, 16, 1, [(0, 200)])]), .inl (0, 16, [(0, 16, 1, [(0, 200)])]), .inl (0, 200, [(0, 200, 1, [(-2147483648, 2147483647)])]), .inl (0, 32, [(0, 32, 1, [(-2147483648, 2147483647)])]), .inr (4, [(0, 100, 100, 0, 0), (2, 0, 0, 3, 18), (0, 0, 99, 0, 0), (0, -2147483648, 2147483647, 0, 0)]), .inl (0, 500, [(0, 500, 1, [(-2147483648, 2147483647)])]), .inr (4, [(0, 50, 50, 0, 0), (2, 0, 0, 3, 20), (0, 0, 49, 0, 0), (0, -2147483648, 2147483647, 0, 0)]), .inl (0, 250, [(0, 250, 1, [(-2147483648, 2147483647)])]), .inl (0, 16, [(0, 16, 1, [(0, 9999)])]), .inl (0, 12, [(0, 12, 1, [(-1, 15)])]), .inl (0, 12, [(0, 12, 1, [(0, 1023)])]), .inl (0, 12, [(0, 12, 1, [(-1, 5)])]), .inl (0, 1000, [(0, 1000, 1, [(0, 999)])]), .inl (0, 1000, [(0, 1000, 1, [(0, 999)])]), .inl (0, 3, [(0, 3, 1, [(-30, 30)])]), .inl (0, 300, [(0, 300, 1, [(1, 999)])]), .inr (10, [(0, 0, 8, 0, 0), (0, -2147483648, 2147483647, 0, 0), (2, 0, 0, 3, 30), (2, 0, 0, 3, 31), (2, 0, 0, 3, 32)]), .inl (0, 8, [(0, 8, 1, [(-2147483648, 2147483647)])]), .inl (0, 8, [(0, 8, 1, [(-2147483648, 2147483647)])]), .inl (0, 8, [(0, 8, 1, [(-2147483648, 2147483647)])]), .inr (1, [(0, 0, 24, 0, 0), (2, 0, 0, 3, 34), (2, 0, 0, 3, 35), (0, 0, 1, 0, 0)]), .inl (0, 144, [(0, 144, 1, [(-1, 60)])]), .inl (0, 144, [(0, 144, 1, [(0, 1000000)])]), .inr (6, [(0, 0, 3, 0, 0), (2, 0, 0, 3, 37), (2, 0, 0, 3, 38), (2, 0, 0, 3, 39), (0, 0, 16, 0, 0), (2, 0, 0, 3, 40), (2, 0, 0, 3, 41), (2, 0, 0, 3, 42)]), .inl (0, 3, [(0, 3, 1, [(0, 999)])]), .inl (0, 3, [(0, 3, 1, [(-1, 11)])]), .inl (0, 3, [(0, 3, 1, [(0, 9999)])]), .inl (0, 16, [(0, 16, 1, [(0, 9999)])]), .inl (0, 16, [(0, 16, 1, [(0, 11)])]), .inl (0, 16, [(0, 16, 1, [(0, 999)])]), .inr (8, [(0, 0, 40, 0, 0), (2, 0, 0, 3, 44), (2, 0, 0, 3, 45), (2, 0, 0, 3, 46), (2, 0, 0, 3, 47)]), .inl (0, 40, [(0, 40, 1, [(0, 999)])]), .inl (0, 40, [(0, 40, 1, [(0, 11)])]), .inl (0, 40, [(0, 40, 1, [(0, 9999)])]), .inl (1, 40, [(0, 40, 1, [(0, 1)])])]
def TT_4 : List aCT := [.inr (9, [(2, 0, 0, 4, 1), (2, 0, 0, 4, 2), (2, 0, 0, 4, 3), (2, 0, 0, 4, 4), (2, 0, 0, 4, 5), (2, 0, 0, 4, 6), (2, 0, 0, 4, 7), (0, 0, 60, 0, 0), (2, 0, 0, 4, 8), (2, 0, 0, 4, 15), (2, 0, 0, 4, 16), (2, 0, 0, 4, 17), (2, 0, 0, 4, 19), (0, 0, 1, 0, 0), (0, -2147483648, 2147483647, 0, 0)]), .inl (0, 180, [(0, 180, 1, [(0, 2)])]), .inl (0, 3, [(0, 3, 1, [(-2147483648, 2147483647)])]), .inl (0, 5, [(0, 5, 1, [(-2147483648, 2147483647)])]), .inl (0, 12, [(0, 12, 1, [(0, 999)])]), .inl (0, 180, [(0, 180, 1, [(-2147483648, 2147483647)])]), .inl (1, 180, [(0, 180, 1, [(0, 1)])]), .inl (0, 60, [(0, 60, 1, [(0, 31)])]), .inr (5, [(0, 0, 16, 0, 0), (2, 0, 0, 4, 9), (2, 0, 0, 4, 10), (2, 0, 0, 4, 11), (2, 0, 0, 4, 12), (0, 0, 200, 0, 0), (2, 0, 0, 4, 13), (2, 0, 0, 4, 14)]), .inl (0, 16, [(0, 16, 1, [(0, 11)])]), .inl (0, 16, [(0, 16, 1, [(-1, 11)])]), .inl (0, 16, [(0, 16, 1, [(0, 200)])]), .inl (0, 16, [(0, 16, 1, [(0, 200)])]), .inl (0, 200, [(0, 200, 1, [(-2147483648, 2147483647)])]), .inl (0, 32, [(0, 32, 1, [(-2147483648, 2147483647)])]), .inl (0, 720, [(0, 720, 1, [(0, 999)])]), .inl (0, 60, [(0, 60, 1, [(-2147483648, 2147483647)])]), .inr (0, [(2, 0, 0, 4, 18), (0, -2147483648, 2147483647, 0, 0), (0, -2147483648, 2147483647, 0, 0)]), .inl (0, 12, [(0, 12, 1, [(0, 999)])]), .inr (0, [(2, 0, 0, 4, 20), (0, -2147483648, 2147483647, 0, 0), (0, -2147483648, 2147483647, 0, 0)]), .inl (0, 12, [(0, 12, 1, [(0, 999)])])]
def TT_5 : List aCT := [.inr (9, [(2, 0, 0, 5, 1), (2, 0, 0, 5, 2), (2, 0, 0, 5, 3), (2, 0, 0, 5, 4), (2, 0, 0, 5, 5), (2, 0, 0, 5, 6), (2, 0, 0, 5, 7), (0, 0, 60, 0, 0), (2, 0, 0, 5, 8), (2, 0, 0, 5, 15), (2, 0, 0, 5, 16), (2, 0, 0, 5, 17), (2, 0, 0, 5, 19), (0, 0, 1, 0, 0), (0, -2147483648, 2147483647, 0, 0)]), .inl (0, 180, [(0, 180, 1, [(0, 2)])]), .inl (0, 3, [(0, 3, 1, [(-2147483648, 2147483647)])]), .inl (0, 5, [(0, 5, 1, [(-2147483648, 2147483647)])]), .inl (0, 12, [(0, 12, 1, [(0, 999)])]), .inl (0, 180, [(0, 180, 1, [(-2147483648, 2147483647)])]), .inl (1, 180, [(0, 180, 1, [(0, 1)])]), .inl (0, 60, [(0, 60, 1, [(0, 31)])]), .inr (5, [(0, 0, 16, 0, 0), (2, 0, 0, 5, 9), (2, 0, 0, 5, 10), (2, 0, 0, 5, 11), (2, 0, 0, 5, 12), (0, 0, 200, 0, 0), (2, 0, 0, 5, 13), (2, 0, 0, 5, 14)]), .inl (0, 16, [(0, 16, 1, [(0, 11)])]), .inl (0, 16, [(0, 16, 1, [(-1, 11)])]), .inl (0, 16, [(0, 16, 1, [(0, 200)])]), .inl (0, 16, [(0, 16, 1, [(0, 200)])]), .inl (0, 200, [(0, 200, 1, [(-2147483648, 2147483647)])]), .inl (0, 32, [(0, 32, 1, [(-2147483648, 2147483647)])]), .inl (0, 720, [(0, 720, 1, [(0, 999)])]), .inl (0, 60, [(0, 60, 1, [(-2147483648, 2147483647)])]), .inr (0, [(2, 0, 0, 5, 18), (0, -2147483648, 2147483647, 0, 0), (0, -2147483648, 2147483647, 0, 0)]), .inl (0, 12, [(0, 12, 1, [(0, 999)])]), .inr (0, [(2, 0, 0, 5, 20), (0, -2147483648, 2147483647, 0, 0), (0, -2147483648, 2147483647, 0, 0)]), .inl (0, 12, [(0, 12, 1, [(0, 999)])])]
def TT_6 : List aCT := [.inr (2, [(0, 0, 1, 0, 0), (0, -2147483648, 2147483647, 0, 0), (0, -2147483648, 2147483647, 0, 0), (2, 0, 0, 6, 1), (2, 0, 0, 6, 2), (2, 0, 0, 6, 3), (2, 0, 0, 6, 4), (2, 0, 0, 6, 5), (2, 0, 0, 6, 6), (0, 0, 3, 0, 0), (0, 0, 16, 0, 0), (2, 0, 0, 0, 37)]), .inl (0, 16, [(0, 16, 1, [(-2147483648, 2147483647)])]), .inl (0, 16, [(0, 16, 1, [(-2147483648, 2147483647)])]), .inl (0, 4913, [(0, 4913, 1, [(-2147483648, 2147483647)])]), .inl (0, 4913, [(0, 4913, 1, [(-2147483648, 2147483647)])]), .inl (1, 4913, [(0, 4913, 1, [(0, 1)])]), .inl (0, 272, [(0, 272, 1, [(-2147483648, 2147483647)])])]
def TT_7 : List aCT := [.inr (7, [(2, 0, 0, 7, 1), (2, 0, 0, 7, 3), (2, 0, 0, 7, 10), (0, 0, 1, 0, 0), (0, 0, 9999, 0, 0), (0, -2147483648, 2147483647, 0, 0), (2, 0, 0, 7, 17), (2, 0, 0, 7, 19), (2, 0, 0, 7, 21), (2, 0, 0, 7, 22), (2, 0, 0, 7, 23), (2, 0, 0, 7, 24), (2, 0, 0, 7, 25), (2, 0, 0, 7, 26), (2, 0, 0, 7, 27), (2, 0, 0, 7, 28), (2, 0, 0, 7, 29), (2, 0, 0, 7, 33), (2, 0, 0, 7, 36), (2, 0, 0, 7, 43)]), .inr (0, [(2, 0, 0, 7, 2), (0, -2147483648, 2147483647, 0, 0), (0, -2147483648, 2147483647, 0, 0)]), .inl (0, 12, [(0, 12, 1, [(0, 999)])]), .inr (5, [(0, 0, 16, 0, 0), (2, 0, 0, 7, 4), (2, 0, 0, 7, 5), (2, 0, 0, 7, 6), (2, 0, 0, 7, 7), (0, 0, 200, 0, 0), (2, 0, 0, 7, 8), (2, 0, 0, 7, 9)]), .inl (0, 16, [(0, 16, 1, [(0, 11)])]), .inl (0, 16, [(0, 16, 1, [(-1, 11)])]), .inl (0, 16, [(0, 16, 1, [(0, 200)])]), .inl (0, 16, [(0, 16, 1, [(0, 200)])]), .inl (0, 200, [(0, 200, 1, [(-2147483648, 2147483647)])]), .inl (0, 32, [(0, 32, 1, [(-2147483648, 2147483647)])]), .inr (5, [(0, 0, 16, 0, 0), (2, 0, 0, 7, 11), (2, 0, 0, 7, 12), (2, 0, 0, 7, 13), (2, 0, 0, 7, 14), (0, 0, 200, 0, 0), (2, 0, 0, 7, 15), (2, 0, 0, 7, 16)]), .inl (0, 16, [(0, 16, 1, [(0, 11)])]), .inl (0, 16, [(0, 16, 1, [(-1, 11)])]), .inl (0, 16, [(0, 16, 1, [(0, 200)])]), .inl (0, 16, [(0, 16, 1, [(0, 200)])]), .inl (0, 200, [(0, 200, 1, [(-2147483648, 2147483647)])]), .inl (0, 32, [(0, 32, 1, [(-2147483648, 2147483647)])]), .inr (4, [(0, 100, 100, 0, 0), (2, 0, 0, 7, 18), (0, 0, 99, 0, 0), (0, -2147483648, 2147483647, 0, 0)]), .inl (0, 500, [(0, 500, 1, [(-2147483648, 2147483647)])]), .inr (4, [(0, 50, 50, 0, 0), (2, 0, 0, 7, 20), (0, 0, 49, 0, 0), (0, -2147483648, 2147483647, 0, 0)]), .inl (0, 250, [(0, 250, 1, [(-2147483648, 2147483647)])]), .inl (0, 16, [(0, 16, 1, [(0, 9999)])]), .inl (0, 12, [(0, 12, 1, [(-1, 15)])]), .inl (0, 12, [(0, 12, 1, [(0, 1023)])]), .inl (0, 12, [(0, 12, 1, [(-1, 5)])]), .inl (0, 1000, [(0, 1000, 1, [(0, 999)])]), .inl (0, 1000, [(0, 1000, 1, [(0, 999)])]), .inl (0, 3, [(0, 3, 1, [(-30, 30)])]), .inl (0, 300, [(0, 300, 1, [(1, 999)])]), .inr (10, [(0, 0, 8, 0, 0), (0, -2147483648, 2147483647, 0, 0), (2, 0, 0, 7, 30), (2, 0, 0, 7, 31), (2, 0, 0, 7, 32)]), .inl (0, 8, [(0, 8, 1, [(-2147483648, 2147483647)])]), .inl (0, 8, [(0, 8, 1, [(-2147483648, 2147483647)])]), .inl (0, 8, [(0, 8, 1, [(-2147483648, 2147483647)])]), .inr (1, [(0, 0, 24, 0, 0), (2, 0, 0, 7, 34), (2, 0, 0, 7, 35), (0, 0, 1, 0, 0)]), .inl (0, 144, [(0, 144, 1, [(-1, 60)])]), .inl (0, 144, [(0, 144, 1, [(0, 1000000)])]), .inr (6, [(0, 0, 3, 0, 0), (2, 0, 0, 7, 37), (2, 0, 0, 7, 38), (2, 0, 0, 7, 39), (0, 0, 16, 0, 0), (2, 0, 0, 7, 40), (2, 0, 0, 7, 41), (2, 0, 0, 7, 42)]), .inl (0, 3, [(0, 3, 1, [(0, 999)])]), .inl (0, 3, [(0, 3, 1, [(-1, 11)])]), .inl (0, 3, [(0, 3, 1, [(0, 9999)])]), .inl (0, 16, [(0, 16, 1, [(0, 9999)])]), .inl (0, 16, [(0, 16, 1, [(0, 11)])]), .inl (0, 16, [(0, 16, 1, [(0, 999)])]), .inr (8, [(0, 0, 40, 0, 0), (2, 0, 0, 7, 44), (2, 0, 0, 7, 45), (2, 0, 0, 7, 46), (2, 0, 0, 7, 47)]), .inl (0, 40, [(0, 40, 1, [(0, 999)])]), .inl (0, 40, [(0, 40, 1, [(0, 11)])]), .inl (0, 40, [(0, 40, 1, [(0, 9999)])]), .inl (1, 40, [(0, 40, 1, [(0, 1)])])]
def TTs : List (List aCT) := [TT_0, TT_1, TT_2, TT_3, TT_4, TT_5, TT_6, TT_7]
theorem TTs_cl : tyCl TTs = true := by decide +kernel
theorem TTs_sg : tySg TTs = true := by decide +kernel
end
