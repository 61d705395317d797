/-! the law's cases: what a call leaves, the script's places -/
section LA
variable {l : Launch} {g : jG} {n : Int}
abbrev lwL (g : jG) (b0 b1 : Nat) (i : Int32) : List (Option Value) := [some (.ref (g.2.1 80)), some (.ref (g.2.2 + (b0 + 0))), some (.ref (g.2.2 + (b1 + 0))), some (.int i)]
theorem lw_cls : jcN 13 = (jyN 315).cls := by decide +kernel
theorem lw_at {i : Int32} {c : Int} (hi : 0 ≤ i.toInt ∧ i.toInt + 6 ≤ (jsN g : Int)) (hN : jsN g ≤ 3072) (h1 : 0 ≤ c) (h2 : c ≤ 5) : vp_in (i + Int32.ofInt c) (jsN g) := by
  have e : (Int32.ofInt c).toInt = c := i32_ofInt (by omega) (by omega)
  have e2 : (i + Int32.ofInt c).toInt = i.toInt + c := by rw [i32_add (by omega) (by omega), e]
  exact i32_in (by omega) (by omega)
theorem lw_x {b0 b1 : Nat} {bk : aB} {h : jH} (hI : lwI g n b0 b1 bk h) : ∃ fs, h[b0 + 0]? = some (.inr (11, fs)) := by
  obtain ⟨c, hc, fs, rfl, -, -⟩ := hI.1 0 b0 0 _ hI.2.2.2.1 ty_x0
  exact ⟨fs, hc⟩
theorem lw_m {b0 b1 : Nat} {bk : aB} {h : jH} (hI : lwI g n b0 b1 bk h) : ∃ fs, h[b1 + 0]? = some (.inr (12, fs)) := by
  obtain ⟨c, hc, fs, rfl, -, -⟩ := hI.1 1 b1 0 _ hI.2.2.2.2.1 ty_m0
  exact ⟨fs, hc⟩
/-- what is known after a call -/
def lwQ (g : jG) (n' : Int) (b0 b1 : Nat) (bk : aB) (v : Option Value) (h' : jH) : Prop := ∃ x : Int32, v = some (.int x) ∧ ∃ bk', lwI g n' b0 b1 bk' h' ∧ ∀ b, bk 6 = some b → bk' 6 = some b
theorem lw_ans {bk : aB} {ev os : List Int} {post : List aF} {v : Option Value} {as : List aQ} {q : aQ} (h0 : as.all (fun q => Nat.beq q.1 0) = true) (hq : q ∈ as) (ha : ansOK g bk ev os post v q) : ∃ x : Int32, v = some (.int x) ∧ postOK (ev ++ os ++ [x.toInt]) post := by
  have e := Nat.eq_of_beq_eq_true (List.all_eq_true.mp h0 q hq)
  obtain ⟨k, q2⟩ := q
  have e : k = 0 := e
  subst e
  obtain ⟨x, h1, -, -, h4⟩ := ha
  exact ⟨x, h1, h4⟩
theorem lwP {K : aK} {b0 b1 : Nat} {bk : aB} {h h' : jH} {ev : List Int} {v : Option Value} {n' : Int} (hI : lwI g n b0 b1 bk h) (hq : kPost TTs g (EIm n) K bk h ev v h') (h1 : apW K.2.2.2.2.2.2.2.1 [(1, 1, 1, 1)] = true) (h2 : apW K.2.2.2.2.2.2.2.1 [(1, 1, 5066, 5066)] = true) (h3 : apW K.2.2.2.2.2.2.2.1 rlF = true) (h0 : K.2.2.2.2.1.all (fun q => Nat.beq q.1 0) = true) (hn : n ≤ n') : lwQ g n' b0 b1 bk v h' := by
  obtain ⟨bk', os, k1, -, q, hq1, hq2⟩ := hq
  obtain ⟨x, hx, -⟩ := lw_ans h0 hq1 hq2
  exact ⟨x, hx, bkF bk', hI.stepN k1 hn h1 h2 h3, fun b hb => (bkF_ne (by decide)).trans (k1.2.2.2.2.1 6 b hb)⟩
end LA
