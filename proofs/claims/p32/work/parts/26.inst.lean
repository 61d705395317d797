/-! the checker's step, instruction by instruction -/
theorem nn {α : Type} {L : α} {Z : Prop} (h : (none : Option α) = some L) : Z := by cases h
theorem bif_some {α : Type} {b : Bool} {o : Option α} {L : α} (h : (bif b then o else none) = some L) : b = true ∧ o = some L := by
  cases b with
  | false => cases h
  | true => exact ⟨rfl, h⟩
theorem one_some {pc kc ks : Nat} {S : Option aS} {L : List (Nat × aS × Nat × Nat)} (h : one pc S kc ks = some L) : ∃ S', S = some S' ∧ L = [(pc, S', kc, ks)] := by
  cases S with
  | none => cases h
  | some S => exact ⟨S, rfl, (Option.some.inj h).symm⟩
theorem oneE_some {k pc kc ks : Nat} {e : Option aE} {env : List aE} {fc : List aF} {loc : List (Option aV)} {stk : List aV} {ov : List aO} {pr : List Nat} {L : List (Nat × aS × Nat × Nat)} (h : oneE k pc e env fc loc stk ov pr kc ks = some L) : ∃ e', e = some e' ∧ L = [(pc, (env ++ [e'], fc, loc, (k, env.length, 0) :: stk, ov, pr), kc, ks)] := by
  cases e with
  | none => cases h
  | some e => exact ⟨e, rfl, (Option.some.inj h).symm⟩
def ldk (k : Nat) (v : aV) : Bool := match k with
  | 0 => Nat.beq v.1 0
  | 1 => Nat.beq v.1 1
  | _ => Nat.ble 2 v.1
theorem aLoad_some {k i pc kc ks : Nat} {env : List aE} {fc : List aF} {loc : List (Option aV)} {stk : List aV} {ov : List aO} {pr : List Nat} {L : List (Nat × aS × Nat × Nat)} (h : aLoad k i pc env fc loc stk ov pr kc ks = some L) : ∃ v, loc[i]? = some (some v) ∧ ldk k v = true ∧ L = [(pc, (env, fc, loc, v :: stk, ov, pr), kc, ks)] := by
  rw [aLoad] at h
  split at h
  · rename_i v hv
    obtain ⟨h1, h2⟩ := bif_some h
    refine ⟨v, hv, ?_, (Option.some.inj h2).symm⟩
    match k, h1 with
    | 0, h1 => exact h1
    | 1, h1 => exact h1
    | m + 2, h1 => exact h1
  · cases h
theorem blt_lt {a b : Nat} (h : Nat.blt a b = true) : a < b := Nat.le_of_ble_eq_true h
theorem nt_f {b : Bool} (h : (!b) = true) : b = false := by cases b with
  | false => rfl
  | true => cases h
section IN
variable {TT : List (List aCT)} {g : jG} {EI : aB → jH → Prop} {W P : List aR} {bk0 : aB} {h0 : jH} {ev : List Int} {y : Nat} {vs : List Int} {bk : aB} {al : List (Option Value)} {st : List Value} {h : jH} {env : List aE} {fc : List aF} {loc : List (Option aV)} {stk : List aV} {ov : List aO} {pr : List Nat} {l : Launch} {d pc kc ks : Nat} {Q : Option Value → jH → Prop} {KT : List aK} {KI : List (List Nat)} {own n len : Nat} {L : List (Nat × aS × Nat × Nat)}
/-- what a method's checker stands on -/
def mOK (TT : List (List aCT)) (g : jG) (EI : aB → jH → Prop) (P : List aR) (KT : List aK) (l : Launch) (y own n : Nat) : Prop := tyCl TT = true ∧ tySg TT = true ∧ eiOK TT g EI P ∧ jcN own = (jyN y).cls ∧ ∀ (k : Nat) (K : aK), KT[k]? = some K → k < n → kOK TT g EI l K
theorem ok_iconst {z : Int} (hM : mOK TT g EI P KT l y own n) (hd : decode (jbC y) pc = .ok (.iconst z, len)) (hS : aStep (TT, KT, KI, W, P, y, own, d, n) pc kc ks (.iconst z) len env fc loc stk ov pr = some L) (hp : PT TT g EI W bk0 h0 ev y vs bk al st h (env, fc, loc, stk, ov, pr)) (k : GoA TT g EI W bk0 h0 ev y l d Q L) : J l g y d pc al st h kc ks Q := by
  obtain ⟨hb, h1⟩ := bif_some hS
  simp only [Bool.and_eq_true, decide_eq_true_eq] at hb
  obtain ⟨⟨l0, c1⟩, c2⟩ := hb
  have hlen := Nat.eq_of_beq_eq_true l0
  subst hlen
  obtain ⟨e, he, rfl⟩ := oneE_some h1
  cases he
  exact st_iconst hd c1 c2 hp (k _ List.mem_cons_self)
theorem ok_bipush {z : Int} (hM : mOK TT g EI P KT l y own n) (hd : decode (jbC y) pc = .ok (.bipush z, len)) (hS : aStep (TT, KT, KI, W, P, y, own, d, n) pc kc ks (.bipush z) len env fc loc stk ov pr = some L) (hp : PT TT g EI W bk0 h0 ev y vs bk al st h (env, fc, loc, stk, ov, pr)) (k : GoA TT g EI W bk0 h0 ev y l d Q L) : J l g y d pc al st h kc ks Q := by
  obtain ⟨hb, h1⟩ := bif_some hS
  simp only [Bool.and_eq_true, decide_eq_true_eq] at hb
  obtain ⟨⟨l0, c1⟩, c2⟩ := hb
  have hlen := Nat.eq_of_beq_eq_true l0
  subst hlen
  obtain ⟨e, he, rfl⟩ := oneE_some h1
  cases he
  exact st_bipush hd c1 c2 hp (k _ List.mem_cons_self)
theorem ok_sipush {z : Int} (hM : mOK TT g EI P KT l y own n) (hd : decode (jbC y) pc = .ok (.sipush z, len)) (hS : aStep (TT, KT, KI, W, P, y, own, d, n) pc kc ks (.sipush z) len env fc loc stk ov pr = some L) (hp : PT TT g EI W bk0 h0 ev y vs bk al st h (env, fc, loc, stk, ov, pr)) (k : GoA TT g EI W bk0 h0 ev y l d Q L) : J l g y d pc al st h kc ks Q := by
  obtain ⟨hb, h1⟩ := bif_some hS
  simp only [Bool.and_eq_true, decide_eq_true_eq] at hb
  obtain ⟨⟨l0, c1⟩, c2⟩ := hb
  have hlen := Nat.eq_of_beq_eq_true l0
  subst hlen
  obtain ⟨e, he, rfl⟩ := oneE_some h1
  cases he
  exact st_sipush hd c1 c2 hp (k _ List.mem_cons_self)
theorem ok_lconst {z : Fin 2} (hM : mOK TT g EI P KT l y own n) (hd : decode (jbC y) pc = .ok (.lconst z, len)) (hS : aStep (TT, KT, KI, W, P, y, own, d, n) pc kc ks (.lconst z) len env fc loc stk ov pr = some L) (hp : PT TT g EI W bk0 h0 ev y vs bk al st h (env, fc, loc, stk, ov, pr)) (k : GoA TT g EI W bk0 h0 ev y l d Q L) : J l g y d pc al st h kc ks Q := by
  obtain ⟨hb, h1⟩ := bif_some hS
  have l0 := hb
  have hlen := Nat.eq_of_beq_eq_true l0
  subst hlen
  obtain ⟨e, he, rfl⟩ := oneE_some h1
  cases he
  exact st_lconst hd hp (k _ List.mem_cons_self)
theorem ok_ldc {j : _} (hM : mOK TT g EI P KT l y own n) (hd : decode (jbC y) pc = .ok (.ldc j, len)) (hS : aStep (TT, KT, KI, W, P, y, own, d, n) pc kc ks (.ldc j) len env fc loc stk ov pr = some L) (hp : PT TT g EI W bk0 h0 ev y vs bk al st h (env, fc, loc, stk, ov, pr)) (k : GoA TT g EI W bk0 h0 ev y l d Q L) : J l g y d pc al st h kc ks Q := by
  obtain ⟨hb, h1⟩ := bif_some hS
  have l0 := hb
  have hlen := Nat.eq_of_beq_eq_true l0
  subst hlen
  split at h1
  · rename_i q hf
    obtain ⟨e, he, rfl⟩ := oneE_some h1
    cases he
    exact st_ldc hM.2.2.2.1 hf hd hp (k _ List.mem_cons_self)
  · cases h1
theorem ok_ldc_w {j : _} (hM : mOK TT g EI P KT l y own n) (hd : decode (jbC y) pc = .ok (.ldc_w j, len)) (hS : aStep (TT, KT, KI, W, P, y, own, d, n) pc kc ks (.ldc_w j) len env fc loc stk ov pr = some L) (hp : PT TT g EI W bk0 h0 ev y vs bk al st h (env, fc, loc, stk, ov, pr)) (k : GoA TT g EI W bk0 h0 ev y l d Q L) : J l g y d pc al st h kc ks Q := by
  obtain ⟨hb, h1⟩ := bif_some hS
  have l0 := hb
  have hlen := Nat.eq_of_beq_eq_true l0
  subst hlen
  split at h1
  · rename_i q hf
    obtain ⟨e, he, rfl⟩ := oneE_some h1
    cases he
    exact st_ldcw hM.2.2.2.1 hf hd hp (k _ List.mem_cons_self)
  · cases h1
theorem ok_ldc2_w {j : _} (hM : mOK TT g EI P KT l y own n) (hd : decode (jbC y) pc = .ok (.ldc2_w j, len)) (hS : aStep (TT, KT, KI, W, P, y, own, d, n) pc kc ks (.ldc2_w j) len env fc loc stk ov pr = some L) (hp : PT TT g EI W bk0 h0 ev y vs bk al st h (env, fc, loc, stk, ov, pr)) (k : GoA TT g EI W bk0 h0 ev y l d Q L) : J l g y d pc al st h kc ks Q := by
  obtain ⟨hb, h1⟩ := bif_some hS
  have l0 := hb
  have hlen := Nat.eq_of_beq_eq_true l0
  subst hlen
  split at h1
  · rename_i q hf
    obtain ⟨e, he, rfl⟩ := oneE_some h1
    cases he
    exact st_ldc2 hM.2.2.2.1 hf hd hp (k _ List.mem_cons_self)
  · cases h1
theorem ok_null (hM : mOK TT g EI P KT l y own n) (hd : decode (jbC y) pc = .ok (.aconst_null, len)) (hS : aStep (TT, KT, KI, W, P, y, own, d, n) pc kc ks (.aconst_null) len env fc loc stk ov pr = some L) (hp : PT TT g EI W bk0 h0 ev y vs bk al st h (env, fc, loc, stk, ov, pr)) (k : GoA TT g EI W bk0 h0 ev y l d Q L) : J l g y d pc al st h kc ks Q := by
  obtain ⟨hb, h1⟩ := bif_some hS
  have l0 := hb
  have hlen := Nat.eq_of_beq_eq_true l0
  subst hlen
  obtain ⟨S, hS2, rfl⟩ := one_some h1
  cases hS2
  exact st_null hd hp (k _ List.mem_cons_self)
theorem ok_iload_n {i : Fin 4} (hM : mOK TT g EI P KT l y own n) (hd : decode (jbC y) pc = .ok (.iload_n i, len)) (hS : aStep (TT, KT, KI, W, P, y, own, d, n) pc kc ks (.iload_n i) len env fc loc stk ov pr = some L) (hp : PT TT g EI W bk0 h0 ev y vs bk al st h (env, fc, loc, stk, ov, pr)) (k : GoA TT g EI W bk0 h0 ev y l d Q L) : J l g y d pc al st h kc ks Q := by
  obtain ⟨hb, h1⟩ := bif_some hS
  have l0 := hb
  have hlen := Nat.eq_of_beq_eq_true l0
  subst hlen
  obtain ⟨v, hv, hk, rfl⟩ := aLoad_some h1
  exact st_iload_n hd hv hk hp (k _ List.mem_cons_self)
theorem ok_iload {i : _} (hM : mOK TT g EI P KT l y own n) (hd : decode (jbC y) pc = .ok (.iload i, len)) (hS : aStep (TT, KT, KI, W, P, y, own, d, n) pc kc ks (.iload i) len env fc loc stk ov pr = some L) (hp : PT TT g EI W bk0 h0 ev y vs bk al st h (env, fc, loc, stk, ov, pr)) (k : GoA TT g EI W bk0 h0 ev y l d Q L) : J l g y d pc al st h kc ks Q := by
  obtain ⟨hb, h1⟩ := bif_some hS
  have l0 := hb
  have hlen := Nat.eq_of_beq_eq_true l0
  subst hlen
  obtain ⟨v, hv, hk, rfl⟩ := aLoad_some h1
  exact st_iload hd hv hk hp (k _ List.mem_cons_self)
theorem ok_istore_n {i : Fin 4} (hM : mOK TT g EI P KT l y own n) (hd : decode (jbC y) pc = .ok (.istore_n i, len)) (hS : aStep (TT, KT, KI, W, P, y, own, d, n) pc kc ks (.istore_n i) len env fc loc stk ov pr = some L) (hp : PT TT g EI W bk0 h0 ev y vs bk al st h (env, fc, loc, stk, ov, pr)) (k : GoA TT g EI W bk0 h0 ev y l d Q L) : J l g y d pc al st h kc ks Q := by
  match stk, hS, hp with
  | [], hS, _ => exact nn hS
  | v :: stk, hS, hp =>
    obtain ⟨hb, h1⟩ := bif_some hS
    simp only [Bool.and_eq_true, decide_eq_true_eq] at hb
    obtain ⟨⟨l0, c1⟩, c2⟩ := hb
    have hlen := Nat.eq_of_beq_eq_true l0
    subst hlen
    obtain ⟨S, hS2, rfl⟩ := one_some h1
    cases hS2
    exact st_istore_n hd c1 (blt_lt c2) hp (k _ List.mem_cons_self)
theorem ok_istore {i : _} (hM : mOK TT g EI P KT l y own n) (hd : decode (jbC y) pc = .ok (.istore i, len)) (hS : aStep (TT, KT, KI, W, P, y, own, d, n) pc kc ks (.istore i) len env fc loc stk ov pr = some L) (hp : PT TT g EI W bk0 h0 ev y vs bk al st h (env, fc, loc, stk, ov, pr)) (k : GoA TT g EI W bk0 h0 ev y l d Q L) : J l g y d pc al st h kc ks Q := by
  match stk, hS, hp with
  | [], hS, _ => exact nn hS
  | v :: stk, hS, hp =>
    obtain ⟨hb, h1⟩ := bif_some hS
    simp only [Bool.and_eq_true, decide_eq_true_eq] at hb
    obtain ⟨⟨l0, c1⟩, c2⟩ := hb
    have hlen := Nat.eq_of_beq_eq_true l0
    subst hlen
    obtain ⟨S, hS2, rfl⟩ := one_some h1
    cases hS2
    exact st_istore hd c1 (blt_lt c2) hp (k _ List.mem_cons_self)
theorem ok_lload_n {i : Fin 4} (hM : mOK TT g EI P KT l y own n) (hd : decode (jbC y) pc = .ok (.lload_n i, len)) (hS : aStep (TT, KT, KI, W, P, y, own, d, n) pc kc ks (.lload_n i) len env fc loc stk ov pr = some L) (hp : PT TT g EI W bk0 h0 ev y vs bk al st h (env, fc, loc, stk, ov, pr)) (k : GoA TT g EI W bk0 h0 ev y l d Q L) : J l g y d pc al st h kc ks Q := by
  obtain ⟨hb, h1⟩ := bif_some hS
  have l0 := hb
  have hlen := Nat.eq_of_beq_eq_true l0
  subst hlen
  obtain ⟨v, hv, hk, rfl⟩ := aLoad_some h1
  exact st_lload_n hd hv hk hp (k _ List.mem_cons_self)
theorem ok_lload {i : _} (hM : mOK TT g EI P KT l y own n) (hd : decode (jbC y) pc = .ok (.lload i, len)) (hS : aStep (TT, KT, KI, W, P, y, own, d, n) pc kc ks (.lload i) len env fc loc stk ov pr = some L) (hp : PT TT g EI W bk0 h0 ev y vs bk al st h (env, fc, loc, stk, ov, pr)) (k : GoA TT g EI W bk0 h0 ev y l d Q L) : J l g y d pc al st h kc ks Q := by
  obtain ⟨hb, h1⟩ := bif_some hS
  have l0 := hb
  have hlen := Nat.eq_of_beq_eq_true l0
  subst hlen
  obtain ⟨v, hv, hk, rfl⟩ := aLoad_some h1
  exact st_lload hd hv hk hp (k _ List.mem_cons_self)
theorem ok_lstore_n {i : Fin 4} (hM : mOK TT g EI P KT l y own n) (hd : decode (jbC y) pc = .ok (.lstore_n i, len)) (hS : aStep (TT, KT, KI, W, P, y, own, d, n) pc kc ks (.lstore_n i) len env fc loc stk ov pr = some L) (hp : PT TT g EI W bk0 h0 ev y vs bk al st h (env, fc, loc, stk, ov, pr)) (k : GoA TT g EI W bk0 h0 ev y l d Q L) : J l g y d pc al st h kc ks Q := by
  match stk, hS, hp with
  | [], hS, _ => exact nn hS
  | v :: stk, hS, hp =>
    obtain ⟨hb, h1⟩ := bif_some hS
    simp only [Bool.and_eq_true, decide_eq_true_eq] at hb
    obtain ⟨⟨l0, c1⟩, c2⟩ := hb
    have hlen := Nat.eq_of_beq_eq_true l0
    subst hlen
    obtain ⟨S, hS2, rfl⟩ := one_some h1
    cases hS2
    exact st_lstore_n hd c1 (blt_lt c2) hp (k _ List.mem_cons_self)
theorem ok_lstore {i : _} (hM : mOK TT g EI P KT l y own n) (hd : decode (jbC y) pc = .ok (.lstore i, len)) (hS : aStep (TT, KT, KI, W, P, y, own, d, n) pc kc ks (.lstore i) len env fc loc stk ov pr = some L) (hp : PT TT g EI W bk0 h0 ev y vs bk al st h (env, fc, loc, stk, ov, pr)) (k : GoA TT g EI W bk0 h0 ev y l d Q L) : J l g y d pc al st h kc ks Q := by
  match stk, hS, hp with
  | [], hS, _ => exact nn hS
  | v :: stk, hS, hp =>
    obtain ⟨hb, h1⟩ := bif_some hS
    simp only [Bool.and_eq_true, decide_eq_true_eq] at hb
    obtain ⟨⟨l0, c1⟩, c2⟩ := hb
    have hlen := Nat.eq_of_beq_eq_true l0
    subst hlen
    obtain ⟨S, hS2, rfl⟩ := one_some h1
    cases hS2
    exact st_lstore hd c1 (blt_lt c2) hp (k _ List.mem_cons_self)
theorem ok_aload_n {i : Fin 4} (hM : mOK TT g EI P KT l y own n) (hd : decode (jbC y) pc = .ok (.aload_n i, len)) (hS : aStep (TT, KT, KI, W, P, y, own, d, n) pc kc ks (.aload_n i) len env fc loc stk ov pr = some L) (hp : PT TT g EI W bk0 h0 ev y vs bk al st h (env, fc, loc, stk, ov, pr)) (k : GoA TT g EI W bk0 h0 ev y l d Q L) : J l g y d pc al st h kc ks Q := by
  obtain ⟨hb, h1⟩ := bif_some hS
  have l0 := hb
  have hlen := Nat.eq_of_beq_eq_true l0
  subst hlen
  obtain ⟨v, hv, hk, rfl⟩ := aLoad_some h1
  exact st_aload_n hd hv hk hp (k _ List.mem_cons_self)
theorem ok_aload {i : _} (hM : mOK TT g EI P KT l y own n) (hd : decode (jbC y) pc = .ok (.aload i, len)) (hS : aStep (TT, KT, KI, W, P, y, own, d, n) pc kc ks (.aload i) len env fc loc stk ov pr = some L) (hp : PT TT g EI W bk0 h0 ev y vs bk al st h (env, fc, loc, stk, ov, pr)) (k : GoA TT g EI W bk0 h0 ev y l d Q L) : J l g y d pc al st h kc ks Q := by
  obtain ⟨hb, h1⟩ := bif_some hS
  have l0 := hb
  have hlen := Nat.eq_of_beq_eq_true l0
  subst hlen
  obtain ⟨v, hv, hk, rfl⟩ := aLoad_some h1
  exact st_aload hd hv hk hp (k _ List.mem_cons_self)
theorem ok_astore_n {i : Fin 4} (hM : mOK TT g EI P KT l y own n) (hd : decode (jbC y) pc = .ok (.astore_n i, len)) (hS : aStep (TT, KT, KI, W, P, y, own, d, n) pc kc ks (.astore_n i) len env fc loc stk ov pr = some L) (hp : PT TT g EI W bk0 h0 ev y vs bk al st h (env, fc, loc, stk, ov, pr)) (k : GoA TT g EI W bk0 h0 ev y l d Q L) : J l g y d pc al st h kc ks Q := by
  match stk, hS, hp with
  | [], hS, _ => exact nn hS
  | v :: stk, hS, hp =>
    obtain ⟨hb, h1⟩ := bif_some hS
    simp only [Bool.and_eq_true, decide_eq_true_eq] at hb
    obtain ⟨⟨l0, c1⟩, c2⟩ := hb
    have hlen := Nat.eq_of_beq_eq_true l0
    subst hlen
    obtain ⟨S, hS2, rfl⟩ := one_some h1
    cases hS2
    exact st_astore_n hd c1 (blt_lt c2) hp (k _ List.mem_cons_self)
theorem ok_astore {i : _} (hM : mOK TT g EI P KT l y own n) (hd : decode (jbC y) pc = .ok (.astore i, len)) (hS : aStep (TT, KT, KI, W, P, y, own, d, n) pc kc ks (.astore i) len env fc loc stk ov pr = some L) (hp : PT TT g EI W bk0 h0 ev y vs bk al st h (env, fc, loc, stk, ov, pr)) (k : GoA TT g EI W bk0 h0 ev y l d Q L) : J l g y d pc al st h kc ks Q := by
  match stk, hS, hp with
  | [], hS, _ => exact nn hS
  | v :: stk, hS, hp =>
    obtain ⟨hb, h1⟩ := bif_some hS
    simp only [Bool.and_eq_true, decide_eq_true_eq] at hb
    obtain ⟨⟨l0, c1⟩, c2⟩ := hb
    have hlen := Nat.eq_of_beq_eq_true l0
    subst hlen
    obtain ⟨S, hS2, rfl⟩ := one_some h1
    cases hS2
    exact st_astore hd c1 (blt_lt c2) hp (k _ List.mem_cons_self)
theorem ok_iadd (hM : mOK TT g EI P KT l y own n) (hd : decode (jbC y) pc = .ok (.iadd, len)) (hS : aStep (TT, KT, KI, W, P, y, own, d, n) pc kc ks (.iadd) len env fc loc stk ov pr = some L) (hp : PT TT g EI W bk0 h0 ev y vs bk al st h (env, fc, loc, stk, ov, pr)) (k : GoA TT g EI W bk0 h0 ev y l d Q L) : J l g y d pc al st h kc ks Q := by
  match stk, hS, hp with
  | [], hS, _ => exact nn hS
  | [_], hS, _ => exact nn hS
  | v :: w :: stk, hS, hp =>
    obtain ⟨hb, h1⟩ := bif_some hS
    simp only [Bool.and_eq_true, decide_eq_true_eq] at hb
    obtain ⟨⟨l0, c1⟩, c2⟩ := hb
    have hlen := Nat.eq_of_beq_eq_true l0
    subst hlen
    obtain ⟨e, he, rfl⟩ := oneE_some h1
    exact st_iadd hd c1 c2 he hp (k _ List.mem_cons_self)
theorem ok_isub (hM : mOK TT g EI P KT l y own n) (hd : decode (jbC y) pc = .ok (.isub, len)) (hS : aStep (TT, KT, KI, W, P, y, own, d, n) pc kc ks (.isub) len env fc loc stk ov pr = some L) (hp : PT TT g EI W bk0 h0 ev y vs bk al st h (env, fc, loc, stk, ov, pr)) (k : GoA TT g EI W bk0 h0 ev y l d Q L) : J l g y d pc al st h kc ks Q := by
  match stk, hS, hp with
  | [], hS, _ => exact nn hS
  | [_], hS, _ => exact nn hS
  | v :: w :: stk, hS, hp =>
    obtain ⟨hb, h1⟩ := bif_some hS
    simp only [Bool.and_eq_true, decide_eq_true_eq] at hb
    obtain ⟨⟨l0, c1⟩, c2⟩ := hb
    have hlen := Nat.eq_of_beq_eq_true l0
    subst hlen
    obtain ⟨e, he, rfl⟩ := oneE_some h1
    exact st_isub hd c1 c2 he hp (k _ List.mem_cons_self)
theorem ok_imul (hM : mOK TT g EI P KT l y own n) (hd : decode (jbC y) pc = .ok (.imul, len)) (hS : aStep (TT, KT, KI, W, P, y, own, d, n) pc kc ks (.imul) len env fc loc stk ov pr = some L) (hp : PT TT g EI W bk0 h0 ev y vs bk al st h (env, fc, loc, stk, ov, pr)) (k : GoA TT g EI W bk0 h0 ev y l d Q L) : J l g y d pc al st h kc ks Q := by
  match stk, hS, hp with
  | [], hS, _ => exact nn hS
  | [_], hS, _ => exact nn hS
  | v :: w :: stk, hS, hp =>
    obtain ⟨hb, h1⟩ := bif_some hS
    simp only [Bool.and_eq_true, decide_eq_true_eq] at hb
    obtain ⟨⟨l0, c1⟩, c2⟩ := hb
    have hlen := Nat.eq_of_beq_eq_true l0
    subst hlen
    obtain ⟨e, he, rfl⟩ := oneE_some h1
    exact st_imul hd c1 c2 he hp (k _ List.mem_cons_self)
theorem ok_irem (hM : mOK TT g EI P KT l y own n) (hd : decode (jbC y) pc = .ok (.irem, len)) (hS : aStep (TT, KT, KI, W, P, y, own, d, n) pc kc ks (.irem) len env fc loc stk ov pr = some L) (hp : PT TT g EI W bk0 h0 ev y vs bk al st h (env, fc, loc, stk, ov, pr)) (k : GoA TT g EI W bk0 h0 ev y l d Q L) : J l g y d pc al st h kc ks Q := by
  match stk, hS, hp with
  | [], hS, _ => exact nn hS
  | [_], hS, _ => exact nn hS
  | v :: w :: stk, hS, hp =>
    obtain ⟨hb, h1⟩ := bif_some hS
    simp only [Bool.and_eq_true, decide_eq_true_eq] at hb
    obtain ⟨⟨l0, c1⟩, c2⟩ := hb
    have hlen := Nat.eq_of_beq_eq_true l0
    subst hlen
    obtain ⟨e, he, rfl⟩ := oneE_some h1
    exact st_irem hd c1 c2 he hp (k _ List.mem_cons_self)
theorem ok_iand (hM : mOK TT g EI P KT l y own n) (hd : decode (jbC y) pc = .ok (.iand, len)) (hS : aStep (TT, KT, KI, W, P, y, own, d, n) pc kc ks (.iand) len env fc loc stk ov pr = some L) (hp : PT TT g EI W bk0 h0 ev y vs bk al st h (env, fc, loc, stk, ov, pr)) (k : GoA TT g EI W bk0 h0 ev y l d Q L) : J l g y d pc al st h kc ks Q := by
  match stk, hS, hp with
  | [], hS, _ => exact nn hS
  | [_], hS, _ => exact nn hS
  | v :: w :: stk, hS, hp =>
    obtain ⟨hb, h1⟩ := bif_some hS
    simp only [Bool.and_eq_true, decide_eq_true_eq] at hb
    obtain ⟨⟨l0, c1⟩, c2⟩ := hb
    have hlen := Nat.eq_of_beq_eq_true l0
    subst hlen
    obtain ⟨e, he, rfl⟩ := oneE_some h1
    exact st_iand hd c1 c2 he hp (k _ List.mem_cons_self)
theorem ok_ior (hM : mOK TT g EI P KT l y own n) (hd : decode (jbC y) pc = .ok (.ior, len)) (hS : aStep (TT, KT, KI, W, P, y, own, d, n) pc kc ks (.ior) len env fc loc stk ov pr = some L) (hp : PT TT g EI W bk0 h0 ev y vs bk al st h (env, fc, loc, stk, ov, pr)) (k : GoA TT g EI W bk0 h0 ev y l d Q L) : J l g y d pc al st h kc ks Q := by
  match stk, hS, hp with
  | [], hS, _ => exact nn hS
  | [_], hS, _ => exact nn hS
  | v :: w :: stk, hS, hp =>
    obtain ⟨hb, h1⟩ := bif_some hS
    simp only [Bool.and_eq_true, decide_eq_true_eq] at hb
    obtain ⟨⟨l0, c1⟩, c2⟩ := hb
    have hlen := Nat.eq_of_beq_eq_true l0
    subst hlen
    obtain ⟨e, he, rfl⟩ := oneE_some h1
    exact st_ior hd c1 c2 he hp (k _ List.mem_cons_self)
theorem ok_ixor (hM : mOK TT g EI P KT l y own n) (hd : decode (jbC y) pc = .ok (.ixor, len)) (hS : aStep (TT, KT, KI, W, P, y, own, d, n) pc kc ks (.ixor) len env fc loc stk ov pr = some L) (hp : PT TT g EI W bk0 h0 ev y vs bk al st h (env, fc, loc, stk, ov, pr)) (k : GoA TT g EI W bk0 h0 ev y l d Q L) : J l g y d pc al st h kc ks Q := by
  match stk, hS, hp with
  | [], hS, _ => exact nn hS
  | [_], hS, _ => exact nn hS
  | v :: w :: stk, hS, hp =>
    obtain ⟨hb, h1⟩ := bif_some hS
    simp only [Bool.and_eq_true, decide_eq_true_eq] at hb
    obtain ⟨⟨l0, c1⟩, c2⟩ := hb
    have hlen := Nat.eq_of_beq_eq_true l0
    subst hlen
    obtain ⟨e, he, rfl⟩ := oneE_some h1
    exact st_ixor hd c1 c2 he hp (k _ List.mem_cons_self)
theorem ok_ishl (hM : mOK TT g EI P KT l y own n) (hd : decode (jbC y) pc = .ok (.ishl, len)) (hS : aStep (TT, KT, KI, W, P, y, own, d, n) pc kc ks (.ishl) len env fc loc stk ov pr = some L) (hp : PT TT g EI W bk0 h0 ev y vs bk al st h (env, fc, loc, stk, ov, pr)) (k : GoA TT g EI W bk0 h0 ev y l d Q L) : J l g y d pc al st h kc ks Q := by
  match stk, hS, hp with
  | [], hS, _ => exact nn hS
  | [_], hS, _ => exact nn hS
  | v :: w :: stk, hS, hp =>
    obtain ⟨hb, h1⟩ := bif_some hS
    simp only [Bool.and_eq_true, decide_eq_true_eq] at hb
    obtain ⟨⟨l0, c1⟩, c2⟩ := hb
    have hlen := Nat.eq_of_beq_eq_true l0
    subst hlen
    obtain ⟨e, he, rfl⟩ := oneE_some h1
    exact st_ishl hd c1 c2 he hp (k _ List.mem_cons_self)
theorem ok_ishr (hM : mOK TT g EI P KT l y own n) (hd : decode (jbC y) pc = .ok (.ishr, len)) (hS : aStep (TT, KT, KI, W, P, y, own, d, n) pc kc ks (.ishr) len env fc loc stk ov pr = some L) (hp : PT TT g EI W bk0 h0 ev y vs bk al st h (env, fc, loc, stk, ov, pr)) (k : GoA TT g EI W bk0 h0 ev y l d Q L) : J l g y d pc al st h kc ks Q := by
  match stk, hS, hp with
  | [], hS, _ => exact nn hS
  | [_], hS, _ => exact nn hS
  | v :: w :: stk, hS, hp =>
    obtain ⟨hb, h1⟩ := bif_some hS
    simp only [Bool.and_eq_true, decide_eq_true_eq] at hb
    obtain ⟨⟨l0, c1⟩, c2⟩ := hb
    have hlen := Nat.eq_of_beq_eq_true l0
    subst hlen
    obtain ⟨e, he, rfl⟩ := oneE_some h1
    exact st_ishr hd c1 c2 he hp (k _ List.mem_cons_self)
theorem ok_ladd (hM : mOK TT g EI P KT l y own n) (hd : decode (jbC y) pc = .ok (.ladd, len)) (hS : aStep (TT, KT, KI, W, P, y, own, d, n) pc kc ks (.ladd) len env fc loc stk ov pr = some L) (hp : PT TT g EI W bk0 h0 ev y vs bk al st h (env, fc, loc, stk, ov, pr)) (k : GoA TT g EI W bk0 h0 ev y l d Q L) : J l g y d pc al st h kc ks Q := by
  match stk, hS, hp with
  | [], hS, _ => exact nn hS
  | [_], hS, _ => exact nn hS
  | v :: w :: stk, hS, hp =>
    obtain ⟨hb, h1⟩ := bif_some hS
    simp only [Bool.and_eq_true, decide_eq_true_eq] at hb
    obtain ⟨⟨l0, c1⟩, c2⟩ := hb
    have hlen := Nat.eq_of_beq_eq_true l0
    subst hlen
    obtain ⟨e, he, rfl⟩ := oneE_some h1
    exact st_ladd hd c1 c2 he hp (k _ List.mem_cons_self)
theorem ok_lsub (hM : mOK TT g EI P KT l y own n) (hd : decode (jbC y) pc = .ok (.lsub, len)) (hS : aStep (TT, KT, KI, W, P, y, own, d, n) pc kc ks (.lsub) len env fc loc stk ov pr = some L) (hp : PT TT g EI W bk0 h0 ev y vs bk al st h (env, fc, loc, stk, ov, pr)) (k : GoA TT g EI W bk0 h0 ev y l d Q L) : J l g y d pc al st h kc ks Q := by
  match stk, hS, hp with
  | [], hS, _ => exact nn hS
  | [_], hS, _ => exact nn hS
  | v :: w :: stk, hS, hp =>
    obtain ⟨hb, h1⟩ := bif_some hS
    simp only [Bool.and_eq_true, decide_eq_true_eq] at hb
    obtain ⟨⟨l0, c1⟩, c2⟩ := hb
    have hlen := Nat.eq_of_beq_eq_true l0
    subst hlen
    obtain ⟨e, he, rfl⟩ := oneE_some h1
    exact st_lsub hd c1 c2 he hp (k _ List.mem_cons_self)
theorem ok_iushr (hM : mOK TT g EI P KT l y own n) (hd : decode (jbC y) pc = .ok (.iushr, len)) (hS : aStep (TT, KT, KI, W, P, y, own, d, n) pc kc ks (.iushr) len env fc loc stk ov pr = some L) (hp : PT TT g EI W bk0 h0 ev y vs bk al st h (env, fc, loc, stk, ov, pr)) (k : GoA TT g EI W bk0 h0 ev y l d Q L) : J l g y d pc al st h kc ks Q := by
  match stk, hS, hp with
  | [], hS, _ => exact nn hS
  | [_], hS, _ => exact nn hS
  | v :: w :: stk, hS, hp =>
    obtain ⟨hb, h1⟩ := bif_some hS
    simp only [Bool.and_eq_true, decide_eq_true_eq] at hb
    obtain ⟨⟨l0, c1⟩, c2⟩ := hb
    have hlen := Nat.eq_of_beq_eq_true l0
    subst hlen
    obtain ⟨e, he, rfl⟩ := oneE_some h1
    cases he
    exact st_iushr hd c1 c2 hp (k _ List.mem_cons_self)
theorem ok_lmul (hM : mOK TT g EI P KT l y own n) (hd : decode (jbC y) pc = .ok (.lmul, len)) (hS : aStep (TT, KT, KI, W, P, y, own, d, n) pc kc ks (.lmul) len env fc loc stk ov pr = some L) (hp : PT TT g EI W bk0 h0 ev y vs bk al st h (env, fc, loc, stk, ov, pr)) (k : GoA TT g EI W bk0 h0 ev y l d Q L) : J l g y d pc al st h kc ks Q := by
  match stk, hS, hp with
  | [], hS, _ => exact nn hS
  | [_], hS, _ => exact nn hS
  | v :: w :: stk, hS, hp =>
    obtain ⟨hb, h1⟩ := bif_some hS
    simp only [Bool.and_eq_true, decide_eq_true_eq] at hb
    obtain ⟨⟨l0, c1⟩, c2⟩ := hb
    have hlen := Nat.eq_of_beq_eq_true l0
    subst hlen
    obtain ⟨e, he, rfl⟩ := oneE_some h1
    cases he
    exact st_lmul hd c1 c2 hp (k _ List.mem_cons_self)
theorem ok_land (hM : mOK TT g EI P KT l y own n) (hd : decode (jbC y) pc = .ok (.land, len)) (hS : aStep (TT, KT, KI, W, P, y, own, d, n) pc kc ks (.land) len env fc loc stk ov pr = some L) (hp : PT TT g EI W bk0 h0 ev y vs bk al st h (env, fc, loc, stk, ov, pr)) (k : GoA TT g EI W bk0 h0 ev y l d Q L) : J l g y d pc al st h kc ks Q := by
  match stk, hS, hp with
  | [], hS, _ => exact nn hS
  | [_], hS, _ => exact nn hS
  | v :: w :: stk, hS, hp =>
    obtain ⟨hb, h1⟩ := bif_some hS
    simp only [Bool.and_eq_true, decide_eq_true_eq] at hb
    obtain ⟨⟨l0, c1⟩, c2⟩ := hb
    have hlen := Nat.eq_of_beq_eq_true l0
    subst hlen
    obtain ⟨e, he, rfl⟩ := oneE_some h1
    cases he
    exact st_land hd c1 c2 hp (k _ List.mem_cons_self)
theorem ok_lor (hM : mOK TT g EI P KT l y own n) (hd : decode (jbC y) pc = .ok (.lor, len)) (hS : aStep (TT, KT, KI, W, P, y, own, d, n) pc kc ks (.lor) len env fc loc stk ov pr = some L) (hp : PT TT g EI W bk0 h0 ev y vs bk al st h (env, fc, loc, stk, ov, pr)) (k : GoA TT g EI W bk0 h0 ev y l d Q L) : J l g y d pc al st h kc ks Q := by
  match stk, hS, hp with
  | [], hS, _ => exact nn hS
  | [_], hS, _ => exact nn hS
  | v :: w :: stk, hS, hp =>
    obtain ⟨hb, h1⟩ := bif_some hS
    simp only [Bool.and_eq_true, decide_eq_true_eq] at hb
    obtain ⟨⟨l0, c1⟩, c2⟩ := hb
    have hlen := Nat.eq_of_beq_eq_true l0
    subst hlen
    obtain ⟨e, he, rfl⟩ := oneE_some h1
    cases he
    exact st_lor hd c1 c2 hp (k _ List.mem_cons_self)
theorem ok_lxor (hM : mOK TT g EI P KT l y own n) (hd : decode (jbC y) pc = .ok (.lxor, len)) (hS : aStep (TT, KT, KI, W, P, y, own, d, n) pc kc ks (.lxor) len env fc loc stk ov pr = some L) (hp : PT TT g EI W bk0 h0 ev y vs bk al st h (env, fc, loc, stk, ov, pr)) (k : GoA TT g EI W bk0 h0 ev y l d Q L) : J l g y d pc al st h kc ks Q := by
  match stk, hS, hp with
  | [], hS, _ => exact nn hS
  | [_], hS, _ => exact nn hS
  | v :: w :: stk, hS, hp =>
    obtain ⟨hb, h1⟩ := bif_some hS
    simp only [Bool.and_eq_true, decide_eq_true_eq] at hb
    obtain ⟨⟨l0, c1⟩, c2⟩ := hb
    have hlen := Nat.eq_of_beq_eq_true l0
    subst hlen
    obtain ⟨e, he, rfl⟩ := oneE_some h1
    cases he
    exact st_lxor hd c1 c2 hp (k _ List.mem_cons_self)
theorem ok_lshl (hM : mOK TT g EI P KT l y own n) (hd : decode (jbC y) pc = .ok (.lshl, len)) (hS : aStep (TT, KT, KI, W, P, y, own, d, n) pc kc ks (.lshl) len env fc loc stk ov pr = some L) (hp : PT TT g EI W bk0 h0 ev y vs bk al st h (env, fc, loc, stk, ov, pr)) (k : GoA TT g EI W bk0 h0 ev y l d Q L) : J l g y d pc al st h kc ks Q := by
  match stk, hS, hp with
  | [], hS, _ => exact nn hS
  | [_], hS, _ => exact nn hS
  | v :: w :: stk, hS, hp =>
    obtain ⟨hb, h1⟩ := bif_some hS
    simp only [Bool.and_eq_true, decide_eq_true_eq] at hb
    obtain ⟨⟨l0, c1⟩, c2⟩ := hb
    have hlen := Nat.eq_of_beq_eq_true l0
    subst hlen
    obtain ⟨e, he, rfl⟩ := oneE_some h1
    cases he
    exact st_lshl hd c1 c2 hp (k _ List.mem_cons_self)
theorem ok_lshr (hM : mOK TT g EI P KT l y own n) (hd : decode (jbC y) pc = .ok (.lshr, len)) (hS : aStep (TT, KT, KI, W, P, y, own, d, n) pc kc ks (.lshr) len env fc loc stk ov pr = some L) (hp : PT TT g EI W bk0 h0 ev y vs bk al st h (env, fc, loc, stk, ov, pr)) (k : GoA TT g EI W bk0 h0 ev y l d Q L) : J l g y d pc al st h kc ks Q := by
  match stk, hS, hp with
  | [], hS, _ => exact nn hS
  | [_], hS, _ => exact nn hS
  | v :: w :: stk, hS, hp =>
    obtain ⟨hb, h1⟩ := bif_some hS
    simp only [Bool.and_eq_true, decide_eq_true_eq] at hb
    obtain ⟨⟨l0, c1⟩, c2⟩ := hb
    have hlen := Nat.eq_of_beq_eq_true l0
    subst hlen
    obtain ⟨e, he, rfl⟩ := oneE_some h1
    cases he
    exact st_lshr hd c1 c2 hp (k _ List.mem_cons_self)
theorem ok_lcmp (hM : mOK TT g EI P KT l y own n) (hd : decode (jbC y) pc = .ok (.lcmp, len)) (hS : aStep (TT, KT, KI, W, P, y, own, d, n) pc kc ks (.lcmp) len env fc loc stk ov pr = some L) (hp : PT TT g EI W bk0 h0 ev y vs bk al st h (env, fc, loc, stk, ov, pr)) (k : GoA TT g EI W bk0 h0 ev y l d Q L) : J l g y d pc al st h kc ks Q := by
  match stk, hS, hp with
  | [], hS, _ => exact nn hS
  | [_], hS, _ => exact nn hS
  | v :: w :: stk, hS, hp =>
    obtain ⟨hb, h1⟩ := bif_some hS
    simp only [Bool.and_eq_true, decide_eq_true_eq] at hb
    obtain ⟨⟨l0, c1⟩, c2⟩ := hb
    have hlen := Nat.eq_of_beq_eq_true l0
    subst hlen
    obtain ⟨e, he, rfl⟩ := oneE_some h1
    cases he
    exact st_lcmp hd c1 c2 hp (k _ List.mem_cons_self)
theorem ok_idiv (hM : mOK TT g EI P KT l y own n) (hd : decode (jbC y) pc = .ok (.idiv, len)) (hS : aStep (TT, KT, KI, W, P, y, own, d, n) pc kc ks (.idiv) len env fc loc stk ov pr = some L) (hp : PT TT g EI W bk0 h0 ev y vs bk al st h (env, fc, loc, stk, ov, pr)) (k : GoA TT g EI W bk0 h0 ev y l d Q L) : J l g y d pc al st h kc ks Q := by
  match stk, hS, hp with
  | [], hS, _ => exact nn hS
  | [_], hS, _ => exact nn hS
  | v :: w :: stk, hS, hp =>
    obtain ⟨hb, h1⟩ := bif_some hS
    simp only [Bool.and_eq_true, decide_eq_true_eq] at hb
    obtain ⟨⟨l0, c1⟩, c2⟩ := hb
    have hlen := Nat.eq_of_beq_eq_true l0
    subst hlen
    split at h1
    · rename_i q hq
      obtain ⟨S, hS2, rfl⟩ := one_some h1
      cases hS2
      exact st_idiv hd c1 c2 hq hp (k _ List.mem_cons_self)
    · cases h1
theorem ok_ineg (hM : mOK TT g EI P KT l y own n) (hd : decode (jbC y) pc = .ok (.ineg, len)) (hS : aStep (TT, KT, KI, W, P, y, own, d, n) pc kc ks (.ineg) len env fc loc stk ov pr = some L) (hp : PT TT g EI W bk0 h0 ev y vs bk al st h (env, fc, loc, stk, ov, pr)) (k : GoA TT g EI W bk0 h0 ev y l d Q L) : J l g y d pc al st h kc ks Q := by
  match stk, hS, hp with
  | [], hS, _ => exact nn hS
  | v :: stk, hS, hp =>
    obtain ⟨hb, h1⟩ := bif_some hS
    simp only [Bool.and_eq_true, decide_eq_true_eq] at hb
    obtain ⟨l0, c1⟩ := hb
    have hlen := Nat.eq_of_beq_eq_true l0
    subst hlen
    obtain ⟨e, he, rfl⟩ := oneE_some h1
    exact st_ineg hd c1 he hp (k _ List.mem_cons_self)
theorem ok_i2l (hM : mOK TT g EI P KT l y own n) (hd : decode (jbC y) pc = .ok (.i2l, len)) (hS : aStep (TT, KT, KI, W, P, y, own, d, n) pc kc ks (.i2l) len env fc loc stk ov pr = some L) (hp : PT TT g EI W bk0 h0 ev y vs bk al st h (env, fc, loc, stk, ov, pr)) (k : GoA TT g EI W bk0 h0 ev y l d Q L) : J l g y d pc al st h kc ks Q := by
  match stk, hS, hp with
  | [], hS, _ => exact nn hS
  | v :: stk, hS, hp =>
    obtain ⟨hb, h1⟩ := bif_some hS
    simp only [Bool.and_eq_true, decide_eq_true_eq] at hb
    obtain ⟨l0, c1⟩ := hb
    have hlen := Nat.eq_of_beq_eq_true l0
    subst hlen
    split at h1
    · rename_i a ha
      obtain ⟨e, he, rfl⟩ := oneE_some h1
      cases he
      exact st_i2l hd c1 ha hp (k _ List.mem_cons_self)
    · cases h1
theorem ok_l2i (hM : mOK TT g EI P KT l y own n) (hd : decode (jbC y) pc = .ok (.l2i, len)) (hS : aStep (TT, KT, KI, W, P, y, own, d, n) pc kc ks (.l2i) len env fc loc stk ov pr = some L) (hp : PT TT g EI W bk0 h0 ev y vs bk al st h (env, fc, loc, stk, ov, pr)) (k : GoA TT g EI W bk0 h0 ev y l d Q L) : J l g y d pc al st h kc ks Q := by
  match stk, hS, hp with
  | [], hS, _ => exact nn hS
  | v :: stk, hS, hp =>
    obtain ⟨hb, h1⟩ := bif_some hS
    simp only [Bool.and_eq_true, decide_eq_true_eq] at hb
    obtain ⟨l0, c1⟩ := hb
    have hlen := Nat.eq_of_beq_eq_true l0
    subst hlen
    split at h1
    · rename_i a ha
      cases hb2 : (decide ((-2147483648 : Int) ≤ a.1) && decide (a.2 ≤ (2147483647 : Int))) with
      | true =>
        rw [hb2] at h1
        simp only [cond_true] at h1
        obtain ⟨e, he, rfl⟩ := oneE_some h1
        cases he
        simp only [Bool.and_eq_true, decide_eq_true_eq] at hb2
        exact st_l2i hd c1 ha hb2.1 hb2.2 hp (k _ List.mem_cons_self)
      | false =>
        rw [hb2] at h1
        simp only [cond_false] at h1
        obtain ⟨e, he, rfl⟩ := oneE_some h1
        cases he
        exact st_l2i0 hd c1 hp (k _ List.mem_cons_self)
    · cases h1
theorem ok_dup (hM : mOK TT g EI P KT l y own n) (hd : decode (jbC y) pc = .ok (.dup, len)) (hS : aStep (TT, KT, KI, W, P, y, own, d, n) pc kc ks (.dup) len env fc loc stk ov pr = some L) (hp : PT TT g EI W bk0 h0 ev y vs bk al st h (env, fc, loc, stk, ov, pr)) (k : GoA TT g EI W bk0 h0 ev y l d Q L) : J l g y d pc al st h kc ks Q := by
  match stk, hS, hp with
  | [], hS, _ => exact nn hS
  | v :: stk, hS, hp =>
    obtain ⟨hb, h1⟩ := bif_some hS
    simp only [Bool.and_eq_true, decide_eq_true_eq] at hb
    obtain ⟨l0, c1⟩ := hb
    have hlen := Nat.eq_of_beq_eq_true l0
    subst hlen
    obtain ⟨S, hS2, rfl⟩ := one_some h1
    cases hS2
    exact st_dup hd (nt_f c1) hp (k _ List.mem_cons_self)
theorem ok_pop (hM : mOK TT g EI P KT l y own n) (hd : decode (jbC y) pc = .ok (.pop, len)) (hS : aStep (TT, KT, KI, W, P, y, own, d, n) pc kc ks (.pop) len env fc loc stk ov pr = some L) (hp : PT TT g EI W bk0 h0 ev y vs bk al st h (env, fc, loc, stk, ov, pr)) (k : GoA TT g EI W bk0 h0 ev y l d Q L) : J l g y d pc al st h kc ks Q := by
  match stk, hS, hp with
  | [], hS, _ => exact nn hS
  | v :: stk, hS, hp =>
    obtain ⟨hb, h1⟩ := bif_some hS
    simp only [Bool.and_eq_true, decide_eq_true_eq] at hb
    obtain ⟨l0, c1⟩ := hb
    have hlen := Nat.eq_of_beq_eq_true l0
    subst hlen
    obtain ⟨S, hS2, rfl⟩ := one_some h1
    cases hS2
    exact st_pop hd (nt_f c1) hp (k _ List.mem_cons_self)
theorem ok_dup2 (hM : mOK TT g EI P KT l y own n) (hd : decode (jbC y) pc = .ok (.dup2, len)) (hS : aStep (TT, KT, KI, W, P, y, own, d, n) pc kc ks (.dup2) len env fc loc stk ov pr = some L) (hp : PT TT g EI W bk0 h0 ev y vs bk al st h (env, fc, loc, stk, ov, pr)) (k : GoA TT g EI W bk0 h0 ev y l d Q L) : J l g y d pc al st h kc ks Q := by
  match stk, hS, hp with
  | [], hS, _ => exact nn hS
  | [_], hS, _ => exact nn hS
  | v :: w :: stk, hS, hp =>
    obtain ⟨hb, h1⟩ := bif_some hS
    simp only [Bool.and_eq_true, decide_eq_true_eq] at hb
    obtain ⟨⟨l0, c1⟩, c2⟩ := hb
    have hlen := Nat.eq_of_beq_eq_true l0
    subst hlen
    obtain ⟨S, hS2, rfl⟩ := one_some h1
    cases hS2
    exact st_dup2 hd (nt_f c1) (nt_f c2) hp (k _ List.mem_cons_self)
theorem ok_goto {off : Int} (hM : mOK TT g EI P KT l y own n) (hd : decode (jbC y) pc = .ok (.goto off, len)) (hS : aStep (TT, KT, KI, W, P, y, own, d, n) pc kc ks (.goto off) len env fc loc stk ov pr = some L) (hp : PT TT g EI W bk0 h0 ev y vs bk al st h (env, fc, loc, stk, ov, pr)) (k : GoA TT g EI W bk0 h0 ev y l d Q L) : J l g y d pc al st h kc ks Q := by
  obtain ⟨hb, h1⟩ := bif_some hS
  simp only [Bool.and_eq_true, decide_eq_true_eq] at hb
  obtain ⟨l0, c1⟩ := hb
  have hlen := Nat.eq_of_beq_eq_true l0
  subst hlen
  obtain ⟨S, hS2, rfl⟩ := one_some h1
  cases hS2
  exact j_goto hd (tgtN_ok c1) (k _ List.mem_cons_self _ _ _ _ _ hp)
theorem ok_icmp {c : ClassFile.Cond} {off : Int} (hM : mOK TT g EI P KT l y own n) (hd : decode (jbC y) pc = .ok (.if_icmp c off, len)) (hS : aStep (TT, KT, KI, W, P, y, own, d, n) pc kc ks (.if_icmp c off) len env fc loc stk ov pr = some L) (hp : PT TT g EI W bk0 h0 ev y vs bk al st h (env, fc, loc, stk, ov, pr)) (k : GoA TT g EI W bk0 h0 ev y l d Q L) : J l g y d pc al st h kc ks Q := by
  match stk, hS, hp with
  | [], hS, _ => exact nn hS
  | [_], hS, _ => exact nn hS
  | v :: w :: stk, hS, hp =>
    obtain ⟨hb, h1⟩ := bif_some hS
    simp only [Bool.and_eq_true, decide_eq_true_eq] at hb
    obtain ⟨⟨⟨l0, c1⟩, c2⟩, c3⟩ := hb
    have hlen := Nat.eq_of_beq_eq_true l0
    subst hlen
    have hL := Option.some.inj h1
    clear h1
    subst hL
    exact st_icmp hd c1 c2 c3 hp k
theorem ok_ifc {c : ClassFile.Cond} {off : Int} (hM : mOK TT g EI P KT l y own n) (hd : decode (jbC y) pc = .ok (.ifCond c off, len)) (hS : aStep (TT, KT, KI, W, P, y, own, d, n) pc kc ks (.ifCond c off) len env fc loc stk ov pr = some L) (hp : PT TT g EI W bk0 h0 ev y vs bk al st h (env, fc, loc, stk, ov, pr)) (k : GoA TT g EI W bk0 h0 ev y l d Q L) : J l g y d pc al st h kc ks Q := by
  match stk, hS, hp with
  | [], hS, _ => exact nn hS
  | v :: stk, hS, hp =>
    obtain ⟨hb, h1⟩ := bif_some hS
    simp only [Bool.and_eq_true, decide_eq_true_eq] at hb
    obtain ⟨⟨l0, c1⟩, c2⟩ := hb
    have hlen := Nat.eq_of_beq_eq_true l0
    subst hlen
    have hL := Option.some.inj h1
    clear h1
    subst hL
    exact st_ifc hd c1 c2 hp k
theorem ok_ifnull {off : Int} (hM : mOK TT g EI P KT l y own n) (hd : decode (jbC y) pc = .ok (.ifnull off, len)) (hS : aStep (TT, KT, KI, W, P, y, own, d, n) pc kc ks (.ifnull off) len env fc loc stk ov pr = some L) (hp : PT TT g EI W bk0 h0 ev y vs bk al st h (env, fc, loc, stk, ov, pr)) (k : GoA TT g EI W bk0 h0 ev y l d Q L) : J l g y d pc al st h kc ks Q := by
  match stk, hS, hp with
  | [], hS, _ => exact nn hS
  | v :: stk, hS, hp =>
    obtain ⟨hb, h1⟩ := bif_some hS
    simp only [Bool.and_eq_true, decide_eq_true_eq] at hb
    obtain ⟨l0, c1⟩ := hb
    have hlen := Nat.eq_of_beq_eq_true l0
    subst hlen
    obtain ⟨vk, va, vb⟩ := v
    match vk, h1, hp with
    | 0, h1, _ => exact nn h1
    | 1, h1, _ => exact nn h1
    | 2, h1, hp =>
      obtain ⟨S, hS2, rfl⟩ := one_some h1
      cases hS2
      exact st_ifnull2 hd rfl hp (k _ List.mem_cons_self)
    | 3, h1, hp =>
      obtain ⟨S, hS2, rfl⟩ := one_some h1
      cases hS2
      exact st_ifnull3 hd c1 hp (k _ List.mem_cons_self)
    | 4, h1, hp =>
      have hL := Option.some.inj h1
      clear h1
      subst hL
      exact st_ifnull4 hd c1 hp (k _ List.mem_cons_self) (k _ (List.mem_cons_of_mem _ List.mem_cons_self))
    | m + 5, h1, _ => exact nn h1
theorem ok_ifnonnull {off : Int} (hM : mOK TT g EI P KT l y own n) (hd : decode (jbC y) pc = .ok (.ifnonnull off, len)) (hS : aStep (TT, KT, KI, W, P, y, own, d, n) pc kc ks (.ifnonnull off) len env fc loc stk ov pr = some L) (hp : PT TT g EI W bk0 h0 ev y vs bk al st h (env, fc, loc, stk, ov, pr)) (k : GoA TT g EI W bk0 h0 ev y l d Q L) : J l g y d pc al st h kc ks Q := by
  match stk, hS, hp with
  | [], hS, _ => exact nn hS
  | v :: stk, hS, hp =>
    obtain ⟨hb, h1⟩ := bif_some hS
    simp only [Bool.and_eq_true, decide_eq_true_eq] at hb
    obtain ⟨l0, c1⟩ := hb
    have hlen := Nat.eq_of_beq_eq_true l0
    subst hlen
    obtain ⟨vk, va, vb⟩ := v
    match vk, h1, hp with
    | 0, h1, _ => exact nn h1
    | 1, h1, _ => exact nn h1
    | 2, h1, hp =>
      obtain ⟨S, hS2, rfl⟩ := one_some h1
      cases hS2
      exact st_ifnonnull2 hd c1 rfl hp (k _ List.mem_cons_self)
    | 3, h1, hp =>
      obtain ⟨S, hS2, rfl⟩ := one_some h1
      cases hS2
      exact st_ifnonnull3 hd hp (k _ List.mem_cons_self)
    | 4, h1, hp =>
      have hL := Option.some.inj h1
      clear h1
      subst hL
      exact st_ifnonnull4 hd c1 hp (k _ List.mem_cons_self) (k _ (List.mem_cons_of_mem _ List.mem_cons_self))
    | m + 5, h1, _ => exact nn h1
theorem ok_table {dflt lo hi : Int} {offs : Array Int} (hM : mOK TT g EI P KT l y own n) (hd : decode (jbC y) pc = .ok (.tableswitch dflt lo hi offs, len)) (hS : aStep (TT, KT, KI, W, P, y, own, d, n) pc kc ks (.tableswitch dflt lo hi offs) len env fc loc stk ov pr = some L) (hp : PT TT g EI W bk0 h0 ev y vs bk al st h (env, fc, loc, stk, ov, pr)) (k : GoA TT g EI W bk0 h0 ev y l d Q L) : J l g y d pc al st h kc ks Q := by
  match stk, hS, hp with
  | [], hS, _ => exact nn hS
  | v :: stk, hS, hp =>
    obtain ⟨hb, h1⟩ := bif_some hS
    simp only [Bool.and_eq_true] at hb
    obtain ⟨⟨⟨c1, c2⟩, c3⟩, c4⟩ := hb
    have hL := Option.some.inj h1
    clear h1
    subst hL
    exact st_table hd c1 (of_decide_eq_true c2) (of_decide_eq_true c3) (fun o ho => of_decide_eq_true (List.all_eq_true.mp c4 o ho)) hp k
theorem ok_get {j : _} (hM : mOK TT g EI P KT l y own n) (hd : decode (jbC y) pc = .ok (.getfield j, len)) (hS : aStep (TT, KT, KI, W, P, y, own, d, n) pc kc ks (.getfield j) len env fc loc stk ov pr = some L) (hp : PT TT g EI W bk0 h0 ev y vs bk al st h (env, fc, loc, stk, ov, pr)) (k : GoA TT g EI W bk0 h0 ev y l d Q L) : J l g y d pc al st h kc ks Q := by
  match stk, hS, hp with
  | [], hS, _ => exact nn hS
  | v :: stk, hS, hp =>
    obtain ⟨hb, h1⟩ := bif_some hS
    simp only [Bool.and_eq_true, decide_eq_true_eq] at hb
    obtain ⟨l0, c1⟩ := hb
    have hlen := Nat.eq_of_beq_eq_true l0
    subst hlen
    split at h1
    · rename_i q hf
      obtain ⟨S, hS2, rfl⟩ := one_some h1
      exact st_get hM.1 hM.2.2.2.1 hd c1 hf hS2 hp (k _ List.mem_cons_self)
    · cases h1
theorem ok_put {j : _} (hM : mOK TT g EI P KT l y own n) (hd : decode (jbC y) pc = .ok (.putfield j, len)) (hS : aStep (TT, KT, KI, W, P, y, own, d, n) pc kc ks (.putfield j) len env fc loc stk ov pr = some L) (hp : PT TT g EI W bk0 h0 ev y vs bk al st h (env, fc, loc, stk, ov, pr)) (k : GoA TT g EI W bk0 h0 ev y l d Q L) : J l g y d pc al st h kc ks Q := by
  match stk, hS, hp with
  | [], hS, _ => exact nn hS
  | [_], hS, _ => exact nn hS
  | v :: w :: stk, hS, hp =>
    obtain ⟨hb, h1⟩ := bif_some hS
    simp only [Bool.and_eq_true, decide_eq_true_eq] at hb
    obtain ⟨l0, c1⟩ := hb
    have hlen := Nat.eq_of_beq_eq_true l0
    subst hlen
    split at h1
    · rename_i q hf
      obtain ⟨S, hS2, rfl⟩ := one_some h1
      exact st_put hM.2.2.1 hM.2.2.2.1 hd c1 hf hS2 hp (k _ List.mem_cons_self)
    · cases h1
theorem ok_iaload (hM : mOK TT g EI P KT l y own n) (hd : decode (jbC y) pc = .ok (.iaload, len)) (hS : aStep (TT, KT, KI, W, P, y, own, d, n) pc kc ks (.iaload) len env fc loc stk ov pr = some L) (hp : PT TT g EI W bk0 h0 ev y vs bk al st h (env, fc, loc, stk, ov, pr)) (k : GoA TT g EI W bk0 h0 ev y l d Q L) : J l g y d pc al st h kc ks Q := by
  match stk, hS, hp with
  | [], hS, _ => exact nn hS
  | [_], hS, _ => exact nn hS
  | v :: w :: stk, hS, hp =>
    obtain ⟨hb, h1⟩ := bif_some hS
    simp only [Bool.and_eq_true, decide_eq_true_eq] at hb
    obtain ⟨⟨l0, c1⟩, c2⟩ := hb
    have hlen := Nat.eq_of_beq_eq_true l0
    subst hlen
    obtain ⟨S, hS2, rfl⟩ := one_some h1
    exact st_ald (ty := 0) (Or.inl ⟨rfl, hd⟩) c1 c2 hS2 hp (k _ List.mem_cons_self)
theorem ok_baload (hM : mOK TT g EI P KT l y own n) (hd : decode (jbC y) pc = .ok (.baload, len)) (hS : aStep (TT, KT, KI, W, P, y, own, d, n) pc kc ks (.baload) len env fc loc stk ov pr = some L) (hp : PT TT g EI W bk0 h0 ev y vs bk al st h (env, fc, loc, stk, ov, pr)) (k : GoA TT g EI W bk0 h0 ev y l d Q L) : J l g y d pc al st h kc ks Q := by
  match stk, hS, hp with
  | [], hS, _ => exact nn hS
  | [_], hS, _ => exact nn hS
  | v :: w :: stk, hS, hp =>
    obtain ⟨hb, h1⟩ := bif_some hS
    simp only [Bool.and_eq_true, decide_eq_true_eq] at hb
    obtain ⟨⟨l0, c1⟩, c2⟩ := hb
    have hlen := Nat.eq_of_beq_eq_true l0
    subst hlen
    obtain ⟨S, hS2, rfl⟩ := one_some h1
    exact st_ald (ty := 1) (Or.inr ⟨rfl, hd⟩) c1 c2 hS2 hp (k _ List.mem_cons_self)
theorem ok_iastore (hM : mOK TT g EI P KT l y own n) (hd : decode (jbC y) pc = .ok (.iastore, len)) (hS : aStep (TT, KT, KI, W, P, y, own, d, n) pc kc ks (.iastore) len env fc loc stk ov pr = some L) (hp : PT TT g EI W bk0 h0 ev y vs bk al st h (env, fc, loc, stk, ov, pr)) (k : GoA TT g EI W bk0 h0 ev y l d Q L) : J l g y d pc al st h kc ks Q := by
  match stk, hS, hp with
  | [], hS, _ => exact nn hS
  | [_], hS, _ => exact nn hS
  | [_, _], hS, _ => exact nn hS
  | v :: x :: w :: stk, hS, hp =>
    obtain ⟨hb, h1⟩ := bif_some hS
    simp only [Bool.and_eq_true, decide_eq_true_eq] at hb
    obtain ⟨⟨⟨l0, c1⟩, c2⟩, c3⟩ := hb
    have hlen := Nat.eq_of_beq_eq_true l0
    subst hlen
    obtain ⟨S, hS2, rfl⟩ := one_some h1
    exact st_ast (ty := 0) hM.2.2.1 hM.2.1 (Or.inl ⟨rfl, hd⟩) c1 c2 c3 hS2 hp (k _ List.mem_cons_self)
theorem ok_bastore (hM : mOK TT g EI P KT l y own n) (hd : decode (jbC y) pc = .ok (.bastore, len)) (hS : aStep (TT, KT, KI, W, P, y, own, d, n) pc kc ks (.bastore) len env fc loc stk ov pr = some L) (hp : PT TT g EI W bk0 h0 ev y vs bk al st h (env, fc, loc, stk, ov, pr)) (k : GoA TT g EI W bk0 h0 ev y l d Q L) : J l g y d pc al st h kc ks Q := by
  match stk, hS, hp with
  | [], hS, _ => exact nn hS
  | [_], hS, _ => exact nn hS
  | [_, _], hS, _ => exact nn hS
  | v :: x :: w :: stk, hS, hp =>
    obtain ⟨hb, h1⟩ := bif_some hS
    simp only [Bool.and_eq_true, decide_eq_true_eq] at hb
    obtain ⟨⟨⟨l0, c1⟩, c2⟩, c3⟩ := hb
    have hlen := Nat.eq_of_beq_eq_true l0
    subst hlen
    obtain ⟨S, hS2, rfl⟩ := one_some h1
    exact st_ast (ty := 1) hM.2.2.1 hM.2.1 (Or.inr ⟨rfl, hd⟩) c1 c2 c3 hS2 hp (k _ List.mem_cons_self)
theorem ok_alen (hM : mOK TT g EI P KT l y own n) (hd : decode (jbC y) pc = .ok (.arraylength, len)) (hS : aStep (TT, KT, KI, W, P, y, own, d, n) pc kc ks (.arraylength) len env fc loc stk ov pr = some L) (hp : PT TT g EI W bk0 h0 ev y vs bk al st h (env, fc, loc, stk, ov, pr)) (k : GoA TT g EI W bk0 h0 ev y l d Q L) : J l g y d pc al st h kc ks Q := by
  match stk, hS, hp with
  | [], hS, _ => exact nn hS
  | v :: stk, hS, hp =>
    obtain ⟨hb, h1⟩ := bif_some hS
    simp only [Bool.and_eq_true, decide_eq_true_eq] at hb
    obtain ⟨l0, c1⟩ := hb
    have hlen := Nat.eq_of_beq_eq_true l0
    subst hlen
    split at h1
    · rename_i q hq
      obtain ⟨hb2, h2⟩ := bif_some h1
      simp only [Bool.and_eq_true, decide_eq_true_eq] at hb2
      obtain ⟨e, he, rfl⟩ := oneE_some h2
      cases he
      exact st_alen hM.2.1 hd c1 hq hb2.1 hp (k _ List.mem_cons_self)
    · cases h1
theorem ok_iinc {i : _} {z : Int} (hM : mOK TT g EI P KT l y own n) (hd : decode (jbC y) pc = .ok (.iinc i z, len)) (hS : aStep (TT, KT, KI, W, P, y, own, d, n) pc kc ks (.iinc i z) len env fc loc stk ov pr = some L) (hp : PT TT g EI W bk0 h0 ev y vs bk al st h (env, fc, loc, stk, ov, pr)) (k : GoA TT g EI W bk0 h0 ev y l d Q L) : J l g y d pc al st h kc ks Q := by
  obtain ⟨hb, h1⟩ := bif_some hS
  simp only [Bool.and_eq_true, decide_eq_true_eq] at hb
  obtain ⟨⟨⟨l0, c1⟩, c2⟩, c3⟩ := hb
  have hlen := Nat.eq_of_beq_eq_true l0
  subst hlen
  split at h1
  · rename_i v hv
    obtain ⟨hb2, h2⟩ := bif_some h1
    split at h2
    · rename_i a ha
      cases hb3 : (decide ((-2147483648 : Int) ≤ a.1 + z) && decide (a.2 + z ≤ (2147483647 : Int))) with
      | true =>
        rw [hb3] at h2
        simp only [cond_true] at h2
        obtain ⟨S, hS2, rfl⟩ := one_some h2
        cases hS2
        simp only [Bool.and_eq_true, decide_eq_true_eq] at hb3
        exact st_iinc hd (blt_lt c1) c2 c3 hv hb2 (iinc_v hp.ee c2 c3 ha hb3.1 hb3.2) hp (k _ List.mem_cons_self)
      | false =>
        rw [hb3] at h2
        simp only [cond_false] at h2
        obtain ⟨S, hS2, rfl⟩ := one_some h2
        cases hS2
        exact st_iinc hd (blt_lt c1) c2 c3 hv hb2 (fun x _ => eVal.any32 _) hp (k _ List.mem_cons_self)
    · cases h2
  · cases h1
theorem ok_lookup {dflt : Int} {ps : Array (Int × Int)} (hM : mOK TT g EI P KT l y own n) (hd : decode (jbC y) pc = .ok (.lookupswitch dflt ps, len)) (hS : aStep (TT, KT, KI, W, P, y, own, d, n) pc kc ks (.lookupswitch dflt ps) len env fc loc stk ov pr = some L) (hp : PT TT g EI W bk0 h0 ev y vs bk al st h (env, fc, loc, stk, ov, pr)) (k : GoA TT g EI W bk0 h0 ev y l d Q L) : J l g y d pc al st h kc ks Q := by
  match stk, hS, hp with
  | [], hS, _ => exact nn hS
  | v :: stk, hS, hp =>
    obtain ⟨hb, h1⟩ := bif_some hS
    simp only [Bool.and_eq_true] at hb
    obtain ⟨⟨⟨c1, c2⟩, c3⟩, c4⟩ := hb
    have hL := Option.some.inj h1
    clear h1
    subst hL
    exact st_lookup hd c1 c2 (of_decide_eq_true c3) (fun o ho => of_decide_eq_true (List.all_eq_true.mp c4 o ho)) hp k
end IN
