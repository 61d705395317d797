/-! WHAT THE REFERENCE'S HEAP KEEPS BESIDES ITS TYPES: the log's rows, the rules' code; in the images too -/
def ROWs : List aSeg := match tyAt TTs 1 1 with
  | some (.inl q) => q.2.2
  | _ => []
def mTs : List aT := match tyAt TTs 1 0 with
  | some (.inr q) => q.2
  | _ => []
theorem ty_m0 : tyAt TTs 1 0 = some (.inr (12, mTs)) := rfl
theorem ty_m1 : tyAt TTs 1 1 = some (.inl (0, 5270, ROWs)) := rfl
theorem ty_m2 : tyAt TTs 1 2 = some (.inl (0, 10540, [(0, 10540, 1, [(-2147483648, 2147483647)])])) := rfl
theorem ty_m3 : tyAt TTs 1 3 = some (.inl (1, 2, [(0, 2, 1, [(0, 1)])])) := rfl
def lgOK (f : Nat → Int32) (o : Nat) : Prop := ∀ k, k < 100 →
  (((f (o + 624 + 5 * k + 1)).toInt = 0 ∨ (f (o + 624 + 5 * k + 1)).toInt = 2 ∨ (f (o + 624 + 5 * k + 1)).toInt = 6) → 0 ≤ (f (o + 624 + 5 * k + 3)).toInt) ∧
  (¬ ((f (o + 624 + 5 * k + 1)).toInt = 0 ∨ (f (o + 624 + 5 * k + 1)).toInt = 2 ∨ (f (o + 624 + 5 * k + 1)).toInt = 6) → 0 ≤ (f (o + 624 + 5 * k + 2)).toInt)
/-- so many of the code's words from p on, with n numbers on the pile -/
def dep (f : Nat → Int32) (a : Nat) : Nat → Nat → Nat → Bool
  | 0, _, _ => true
  | c + 1, p, n => bif decide ((f (a + 130 + 2 * p)).toInt = 10) then Nat.ble 1 n && dep f a c (p + 1) n
    else bif decide ((f (a + 130 + 2 * p)).toInt = 11) || decide ((f (a + 130 + 2 * p)).toInt = 12) then Nat.ble 2 n && dep f a c (p + 1) (n - 1)
    else (decide ((f (a + 130 + 2 * p)).toInt = 1) || decide ((f (a + 130 + 2 * p)).toInt = 2) || (decide ((f (a + 130 + 2 * p)).toInt = 3) && decide ((f (a + 130 + 2 * p + 1)).toInt ≤ 11))) && dep f a c (p + 1) (n + 1)
def cdOd (f : Nat → Int32) (o : Nat) : Prop := ∀ t, t < 2 → ∀ k : Nat, k < 16 → (k : Int) < (f (o + 1130 + 930 * t)).toInt → ∀ s e : Nat, (f (o + 1130 + 930 * t + 1 + 8 * k + 5)).toInt = (s : Int) → (f (o + 1130 + 930 * t + 1 + 8 * k + 6)).toInt = (e : Int) → e ≤ 400 → dep f (o + 1130 + 930 * t) (e - s) s 0 = true
/-- a step's goal is a berth -/
def goOK (f : Nat → Int32) (o : Nat) : Prop := ∀ t, t < 2 → ∀ k : Nat, k < 16 → (f (o + 1130 + 930 * t + 1 + 8 * k)).toInt = 0 → 0 ≤ (f (o + 1130 + 930 * t + 1 + 8 * k + 2)).toInt ∧ (f (o + 1130 + 930 * t + 1 + 8 * k + 2)).toInt ≤ 11
def cdOK (f : Nat → Int32) (o : Nat) : Prop := cdOd f o ∧ goOK f o
/-- n: what the counters of the images are at most -/
def EIm (n : Int) (bk : aB) (h : jH) : Prop := ∀ (b : Nat) (f F K : Nat → Int32), bk 1 = some b → h[b + 1]? = some (.inl (0, 5270, f)) → h[b + 2]? = some (.inl (0, 10540, F)) → h[b + 3]? = some (.inl (1, 2, K)) →
  (lgOK f 0 ∧ cdOK f 0) ∧ ∀ k, k < 2 → ¬ K k = 0 → lgOK F (5270 * k) ∧ cdOK F (5270 * k) ∧ (∀ i, i < 5270 → sgOK ROWs i (F (5270 * k + i)).toInt) ∧ (F (5270 * k + 1)).toInt ≤ n ∧ (F (5270 * k + 5066)).toInt ≤ n
theorem lgOK.cg {f f' : Nat → Int32} {o : Nat} (h : ∀ i, o + 624 ≤ i → i ≤ o + 1123 → f' i = f i) (hl : lgOK f o) : lgOK f' o := by
  intro k hk
  rw [h (o + 624 + 5 * k + 1) (by omega) (by omega), h (o + 624 + 5 * k + 2) (by omega) (by omega), h (o + 624 + 5 * k + 3) (by omega) (by omega)]
  exact hl k hk
theorem dep_cg {f f' : Nat → Int32} {a : Nat} (h : ∀ i, a ≤ i → i ≤ a + 929 → f' i = f i) : ∀ (c p n : Nat), (c = 0 ∨ p + c ≤ 400) → dep f' a c p n = dep f a c p n := by
  intro c
  induction c with
  | zero => intro p n _; rfl
  | succ c ih =>
    intro p n hp
    rw [dep, dep, h (a + 130 + 2 * p) (by omega) (by omega), h (a + 130 + 2 * p + 1) (by omega) (by omega), ih (p + 1) n (by omega), ih (p + 1) (n - 1) (by omega), ih (p + 1) (n + 1) (by omega)]
theorem cdOd.cg {f f' : Nat → Int32} {o : Nat} (h : ∀ i, o + 1130 ≤ i → i ≤ o + 2989 → f' i = f i) (hl : cdOd f o) : cdOd f' o := by
  intro t ht k hk hn s e hs he h4
  rw [h _ (by omega) (by omega)] at hn hs he
  rw [dep_cg (f := f) (fun i h1 h2 => h i (by omega) (by omega)) _ _ _ (by omega)]
  exact hl t ht k hk hn s e hs he h4
theorem cdOK.cg {f f' : Nat → Int32} {o : Nat} (h : ∀ i, o + 1130 ≤ i → i ≤ o + 2989 → f' i = f i) (hl : cdOK f o) : cdOK f' o :=
  ⟨hl.1.cg h, fun t ht k hk h0 => by
    rw [h _ (by omega) (by omega)] at h0 ⊢
    exact hl.2 t ht k hk h0⟩
theorem ap_not {W P : List aR} {B o i : Nat} {lo hi : Int} (h : apW W P = true) (hP : (B, o, lo, hi) ∈ P) (h1 : lo ≤ i) (h2 : (i : Int) ≤ hi) : ¬ inW W B o i := by
  intro ⟨w, hw, e1, e2, e3, e4⟩
  have h3 := List.all_eq_true.mp (List.all_eq_true.mp h w hw) _ hP
  simp only [Bool.not_eq_true', Bool.and_eq_false_iff, decide_eq_false_iff_not] at h3
  rcases h3 with ((h3 | h3) | h3) | h3
  · rw [e1, Nat.beq_refl] at h3; cases h3
  · rw [e2, Nat.beq_refl] at h3; cases h3
  · omega
  · omega
section EM
variable {g : jG} {bk : aB} {h h' : jH}
/-- an array of the reference -/
theorem m_arr {b o ty n : Nat} {sg : List aSeg} (hT : HT TTs g bk h) (hb : bk 1 = some b) (ht : tyAt TTs 1 o = some (.inl (ty, n, sg))) : ∃ f, h[b + o]? = some (.inl (ty, n, f)) ∧ ∀ i, i < n → sgOK sg i (f i).toInt := by
  obtain ⟨c, h1, f, rfl, h2⟩ := hT 1 b o _ hb ht
  exact ⟨f, h1, h2⟩
theorem m_obj {b : Nat} (hT : HT TTs g bk h) (hb : bk 1 = some b) : ∃ fs, h[b]? = some (.inr (12, fs)) ∧ ∀ (k : Nat) (t : aT), mTs[k]? = some t → ∃ v, fs[k]? = some v ∧ ftOK g bk t v := by
  obtain ⟨c, h1, fs, rfl, h2, h3⟩ := hT 1 b 0 _ hb ty_m0
  exact ⟨fs, h1, h3⟩
theorem un_arr {W : List aR} {b o ty n : Nat} {f f' : Nat → Int32} (hU : UN TTs W bk h h') (hb : bk 1 = some b) (ho : o < tyLen TTs 1) (h1 : h[b + o]? = some (.inl (ty, n, f))) (h2 : h'[b + o]? = some (.inl (ty, n, f'))) : ∀ i, ¬ inW W 1 o i → f' i = f i := by
  obtain ⟨c', g1, g2⟩ := hU.2 1 b o _ hb ho h1
  cases h2.symm.trans g1
  exact g2.2.2
theorem EIm_mono {n n' : Int} (hn : n ≤ n') (hE : EIm n bk h) : EIm n' bk h := by
  intro b f F K h1 h2 h3 h4
  obtain ⟨e1, e2⟩ := hE b f F K h1 h2 h3 h4
  refine ⟨e1, fun k hk hK => ?_⟩
  obtain ⟨x1, x2, x3, x4, x5⟩ := e2 k hk hK
  exact ⟨x1, x2, x3, by omega, by omega⟩
theorem EIm_ok {n : Int} : eiOK TTs g (EIm n) Pm := by
  intro bk h h' Wk hap hU hlen hT hT' hE b f' F' K' hb h1 h2 h3
  obtain ⟨f, q1, -⟩ := m_arr hT hb ty_m1
  obtain ⟨F, q2, -⟩ := m_arr hT hb ty_m2
  obtain ⟨K, q3, -⟩ := m_arr hT hb ty_m3
  have u1 := un_arr hU hb (by decide +kernel) q1 h1
  have u2 := un_arr hU hb (by decide +kernel) q2 h2
  have u3 := un_arr hU hb (by decide +kernel) q3 h3
  have p1 : ∀ i, 624 ≤ i → i ≤ 1123 → f' i = f i := fun i a1 a2 => u1 i (ap_not hap (lo := 624) (hi := 1123) (by decide +kernel) (by omega) (by omega))
  have p2 : ∀ i, 1130 ≤ i → i ≤ 2989 → f' i = f i := fun i a1 a2 => u1 i (ap_not hap (lo := 1130) (hi := 2989) (by decide +kernel) (by omega) (by omega))
  have p3 : ∀ i, i ≤ 10539 → F' i = F i := fun i a1 => u2 i (ap_not hap (lo := 0) (hi := 10539) (by decide +kernel) (by omega) (by omega))
  have p4 : ∀ i, i ≤ 1 → K' i = K i := fun i a1 => u3 i (ap_not hap (lo := 0) (hi := 1) (by decide +kernel) (by omega) (by omega))
  obtain ⟨⟨e1, e2⟩, e3⟩ := hE b f F K hb q1 q2 q3
  refine ⟨⟨e1.cg (fun i a1 a2 => p1 i (by omega) (by omega)), e2.cg (fun i a1 a2 => p2 i (by omega) (by omega))⟩, fun k hk hK => ?_⟩
  obtain ⟨x1, x2, x3, x4, x5⟩ := e3 k hk (by rw [← p4 k (by omega)]; exact hK)
  refine ⟨x1.cg (fun i a1 a2 => p3 i (by omega)), x2.cg (fun i a1 a2 => p3 i (by omega)), fun i hi => ?_, by rw [p3 _ (by omega)]; exact x4, by rw [p3 _ (by omega)]; exact x5⟩
  rw [p3 _ (by omega)]
  exact x3 i hi
end EM
