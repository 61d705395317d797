/-! what the code and the pile mean -/
section PD
def stD (o a : Int) (D : Nat) : Option Nat := if o = 10 then (if 1 ≤ D then some D else none) else if o = 11 ∨ o = 12 then (if 2 ≤ D then some (D - 1) else none) else if o = 1 ∨ o = 2 ∨ (o = 3 ∧ a ≤ 11) then some (D + 1) else none
def rg (O A : Nat → Int32) : Nat → Nat → Nat → Option Nat
  | 0, _, D => some D
  | k + 1, p, D => match stD (O p).toInt (A p).toInt D with
    | some D' => rg O A k (p + 1) D'
    | none => none
theorem rg_app {O A : Nat → Int32} : ∀ (k p D D' : Nat), rg O A k p D = some D' → rg O A (k + 1) p D = stD (O (p + k)).toInt (A (p + k)).toInt D' := by
  intro k
  induction k with
  | zero =>
    intro p D D' h
    rw [rg] at h
    cases h
    rw [rg, Nat.add_zero]
    cases stD (O p).toInt (A p).toInt D <;> rfl
  | succ k ih =>
    intro p D D' h
    rw [rg] at h
    rw [rg]
    cases h1 : stD (O p).toInt (A p).toInt D with
    | none => rw [h1] at h; cases h
    | some D1 =>
      rw [h1] at h
      dsimp only at h ⊢
      rw [ih (p + 1) D1 D' h, show p + 1 + k = p + (k + 1) by omega]
theorem rg_cg {O A O' A' : Nat → Int32} : ∀ (k p D : Nat), (∀ i, p ≤ i → i < p + k → O' i = O i ∧ A' i = A i) → rg O' A' k p D = rg O A k p D := by
  intro k
  induction k with
  | zero => intro p D _; rfl
  | succ k ih =>
    intro p D h
    rw [rg, rg, (h p (by omega) (by omega)).1, (h p (by omega) (by omega)).2]
    cases stD (O p).toInt (A p).toInt D with
    | none => rfl
    | some D1 => exact ih (p + 1) D1 (fun i h1 h2 => h i (by omega) (by omega))
theorem rg_emit {O A : Nat → Int32} {s0 c D : Nat} {op ar : Int32} (hc : s0 ≤ c) (h : rg O A (c - s0) s0 0 = some D) : rg (upd O c op) (upd A c ar) (c + 1 - s0) s0 0 = stD op.toInt ar.toInt D := by
  have h2 : rg (upd O c op) (upd A c ar) (c - s0) s0 0 = some D := by
    rw [rg_cg (O := O) (A := A) (O' := upd O c op) (A' := upd A c ar) (c - s0) s0 0 (fun i h1 h2 => ⟨if_neg (by omega), if_neg (by omega)⟩)]
    exact h
  rw [show c + 1 - s0 = (c - s0) + 1 by omega, rg_app _ _ _ _ h2, show s0 + (c - s0) = c by omega]
  rw [show upd O c op c = op from if_pos rfl, show upd A c ar c = ar from if_pos rfl]
def nb (P : Nat → Int32) : Nat → Nat
  | 0 => 0
  | m + 1 => nb P m + if (P m).toInt = 11 ∨ (P m).toInt = 12 then 1 else 0
def nr (P : Nat → Int32) : Nat → Nat
  | 0 => 0
  | m + 1 => nr P m + if (P m).toInt = 13 then 1 else 0
def pv (P : Nat → Int32) (m : Nat) : Prop := ∀ j, j < m → (P j).toInt = 10 ∨ (P j).toInt = 11 ∨ (P j).toInt = 12 ∨ (P j).toInt = 13
theorem nb_cg {P P' : Nat → Int32} : ∀ m, (∀ j, j < m → P' j = P j) → nb P' m = nb P m := by
  intro m
  induction m with
  | zero => intro _; rfl
  | succ m ih => intro h; rw [nb, nb, ih (fun j hj => h j (by omega)), h m (by omega)]
theorem nr_cg {P P' : Nat → Int32} : ∀ m, (∀ j, j < m → P' j = P j) → nr P' m = nr P m := by
  intro m
  induction m with
  | zero => intro _; rfl
  | succ m ih => intro h; rw [nr, nr, ih (fun j hj => h j (by omega)), h m (by omega)]
theorem nb_push {P : Nat → Int32} {m : Nat} {op : Int32} : nb (upd P m op) (m + 1) = nb P m + if op.toInt = 11 ∨ op.toInt = 12 then 1 else 0 := by
  rw [nb, nb_cg (P := P) (P' := upd P m op) m (fun j hj => if_neg (by omega)), show upd P m op m = op from if_pos rfl]
theorem nr_push {P : Nat → Int32} {m : Nat} {op : Int32} : nr (upd P m op) (m + 1) = nr P m + if op.toInt = 13 then 1 else 0 := by
  rw [nr, nr_cg (P := P) (P' := upd P m op) m (fun j hj => if_neg (by omega)), show upd P m op m = op from if_pos rfl]
theorem pv_push {P : Nat → Int32} {m : Nat} {op : Int32} (h : pv P m) (ho : op.toInt = 10 ∨ op.toInt = 11 ∨ op.toInt = 12 ∨ op.toInt = 13) : pv (upd P m op) (m + 1) := fun j hj => by
  by_cases e : j = m
  · subst e
    rw [show upd P j op j = op from if_pos rfl]
    exact ho
  · rw [show upd P m op j = P j from if_neg e]
    exact h j (by omega)
/-- the code from s0 on, the pile, and whether a whole test stands before the next word -/
def RR (s0 : Nat) (O0 A0 P : Nat → Int32) (w be wh : Nat) (O A : Nat → Int32) (c m : Nat) : Prop := s0 ≤ c ∧ (∀ i, i < s0 → O i = O0 i ∧ A i = A0 i) ∧ (be = 0 → pv P m ∧ nr P m = w ∧ rg O A (c - s0) s0 0 = some (nb P m + wh))
theorem RR.bad {s0 : Nat} {O0 A0 P P' O A : Nat → Int32} {w w' be be' wh wh' c m m' : Nat} (h : RR s0 O0 A0 P w be wh O A c m) (hb : be' = 1) : RR s0 O0 A0 P' w' be' wh' O A c m' := ⟨h.1, h.2.1, fun e => by omega⟩
theorem RR.settle {s0 : Nat} {O0 A0 P O A : Nat → Int32} {w be c m : Nat} {le : Int} (hle : 1 ≤ le) (h : RR s0 O0 A0 P w be 1 O A c (m + 1)) (hb : le ≤ bnF (P m).toInt) : RR s0 O0 A0 P w be 1 (upd O c (P m)) (upd A c 0) (c + 1) m := by
  obtain ⟨h1, h2, h3⟩ := h
  refine ⟨by omega, fun i hi => ⟨by rw [show upd O c (P m) i = O i from if_neg (by omega)]; exact (h2 i hi).1, by rw [show upd A c 0 i = A i from if_neg (by omega)]; exact (h2 i hi).2⟩, fun e => ?_⟩
  obtain ⟨a1, a2, a3⟩ := h3 e
  have h13 : ¬ (P m).toInt = 13 := fun q => by
    rw [bnF, if_pos q] at hb
    omega
  rw [nr, if_neg h13, Nat.add_zero] at a2
  refine ⟨fun j hj => a1 j (by omega), a2, ?_⟩
  rw [rg_emit h1 a3, nb]
  rcases a1 m (by omega) with q | q | q | q
  · rw [if_neg (by omega), stD, if_pos q, if_pos (by omega)]
  · rw [if_pos (Or.inl q), stD, if_neg (by omega), if_pos (Or.inl q), if_pos (by omega)]
    congr 1
  · rw [if_pos (Or.inr q), stD, if_neg (by omega), if_pos (Or.inr q), if_pos (by omega)]
    congr 1
  · exact absurd q h13
theorem RR.leaf {s0 : Nat} {O0 A0 P O A : Nat → Int32} {w be c m : Nat} {op ar : Int32} (h : RR s0 O0 A0 P w be 0 O A c m) (ho : op.toInt = 1 ∨ op.toInt = 2 ∨ (op.toInt = 3 ∧ ar.toInt ≤ 11)) : RR s0 O0 A0 P w be 1 (upd O c op) (upd A c ar) (c + 1) m := by
  obtain ⟨h1, h2, h3⟩ := h
  refine ⟨by omega, fun i hi => ⟨by rw [show upd O c op i = O i from if_neg (by omega)]; exact (h2 i hi).1, by rw [show upd A c ar i = A i from if_neg (by omega)]; exact (h2 i hi).2⟩, fun e => ?_⟩
  obtain ⟨a1, a2, a3⟩ := h3 e
  refine ⟨a1, a2, ?_⟩
  rw [rg_emit h1 a3, stD, if_neg (by omega), if_neg (by omega), if_pos ho]
/-- not, or a bracket, comes to the pile -/
theorem RR.push {s0 : Nat} {O0 A0 P O A : Nat → Int32} {w be c m : Nat} {op : Int32} (h : RR s0 O0 A0 P w be 0 O A c m) (ho : op.toInt = 10 ∨ op.toInt = 13) : RR s0 O0 A0 (upd P m op) (w + if op.toInt = 13 then 1 else 0) be 0 O A c (m + 1) := by
  obtain ⟨h1, h2, h3⟩ := h
  refine ⟨h1, h2, fun e => ?_⟩
  obtain ⟨a1, a2, a3⟩ := h3 e
  refine ⟨pv_push a1 (by omega), by rw [nr_push, a2], ?_⟩
  rw [nb_push, if_neg (by omega)]
  exact a3
/-- and, or comes to the pile -/
theorem RR.op {s0 : Nat} {O0 A0 P O A : Nat → Int32} {w be c m : Nat} {op : Int32} (h : RR s0 O0 A0 P w be 1 O A c m) (ho : op.toInt = 11 ∨ op.toInt = 12) : RR s0 O0 A0 (upd P m op) w be 0 O A c (m + 1) := by
  obtain ⟨h1, h2, h3⟩ := h
  refine ⟨h1, h2, fun e => ?_⟩
  obtain ⟨a1, a2, a3⟩ := h3 e
  refine ⟨pv_push a1 (by omega), by rw [nr_push, if_neg (by omega), a2]; rfl, ?_⟩
  rw [nb_push, if_pos ho]
  exact a3
/-- a bracket goes -/
theorem RR.close {s0 : Nat} {O0 A0 P O A : Nat → Int32} {w be c m : Nat} (h : RR s0 O0 A0 P (w + 1) be 1 O A c m) (hbe : be = 0) (hm : m = 0 ∨ bnF (P (m - 1)).toInt < 1) : ∃ m', m = m' + 1 ∧ RR s0 O0 A0 P w be 1 O A c m' := by
  obtain ⟨h1, h2, h3⟩ := h
  obtain ⟨a1, a2, a3⟩ := h3 hbe
  cases m with
  | zero => rw [nr] at a2; omega
  | succ m =>
    have hm2 : bnF (P m).toInt < 1 := by
      rcases hm with e | e
      · omega
      · exact e
    have h13 : (P m).toInt = 13 := by
      rcases a1 m (by omega) with q | q | q | q
      · rw [bnF, if_neg (by omega), if_neg (by omega), if_neg (by omega)] at hm2; omega
      · rw [bnF, if_neg (by omega), if_neg (by omega), if_pos q] at hm2; omega
      · rw [bnF, if_neg (by omega), if_pos q] at hm2; omega
      · exact q
    rw [nr, if_pos h13] at a2
    rw [nb, if_neg (by omega)] at a3
    exact ⟨m, rfl, h1, h2, fun _ => ⟨fun j hj => a1 j (by omega), by omega, a3⟩⟩
/-- all is settled -/
theorem RR.done {s0 : Nat} {O0 A0 P O A : Nat → Int32} {be c m : Nat} (h : RR s0 O0 A0 P 0 be 1 O A c m) (hbe : be = 0) (hm : m = 0 ∨ bnF (P (m - 1)).toInt < 1) : rg O A (c - s0) s0 0 = some 1 := by
  obtain ⟨h1, h2, h3⟩ := h
  obtain ⟨a1, a2, a3⟩ := h3 hbe
  cases m with
  | zero => exact a3
  | succ m =>
    exfalso
    have hm2 : bnF (P m).toInt < 1 := by
      rcases hm with e | e
      · omega
      · exact e
    have h13 : (P m).toInt = 13 := by
      rcases a1 m (by omega) with q | q | q | q
      · rw [bnF, if_neg (by omega), if_neg (by omega), if_neg (by omega)] at hm2; omega
      · rw [bnF, if_neg (by omega), if_neg (by omega), if_pos q] at hm2; omega
      · rw [bnF, if_neg (by omega), if_pos q] at hm2; omega
      · exact q
    rw [nr, if_pos h13] at a2
    omega
end PD
