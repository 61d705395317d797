/-! what the law's loop keeps; block 7 is forgotten after a call -/
section LQ
variable {l : Launch} {g : jG} {n : Int}
def bkF (bk : aB) : aB := fun B => if B = 7 then none else bk B
theorem bkF_ne {bk : aB} {B : Nat} (h : B ≠ 7) : bkF bk B = bk B := by rw [bkF, if_neg h]
theorem bkF_some {bk : aB} {B b : Nat} (h : bkF bk B = some b) : B ≠ 7 ∧ bk B = some b := by
  rw [bkF] at h
  split at h
  · cases h
  · rename_i h7
    exact ⟨h7, h⟩
theorem ft_forget {bk : aB} {t : aT} {v : Value} (hn : t.1 ≤ 1 ∨ t.2.2.2.1 ≠ 7) (hv : ftOK g bk t v) : ftOK g (bkF bk) t v := by
  obtain ⟨k, lo, hi, B, o⟩ := t
  match k, hv, hn with
  | 0, hv, _ => exact hv
  | 1, hv, _ => exact hv
  | 2, ⟨b, h1, h2⟩, hn =>
    have n7 : B ≠ 7 := hn.resolve_left (by show ¬ (2 : Nat) ≤ 1; decide)
    exact ⟨b, (bkF_ne n7).trans h1, h2⟩
  | 3, hv, hn =>
    have n7 : B ≠ 7 := hn.resolve_left (by show ¬ (3 : Nat) ≤ 1; decide)
    rcases hv with ⟨b, h1, h2⟩ | ⟨h1, h2⟩
    · exact Or.inl ⟨b, (bkF_ne n7).trans h1, h2⟩
    · exact Or.inr ⟨(bkF_ne n7).trans h1, h2⟩
  | m + 4, hv, hn =>
    have n7 : B ≠ 7 := hn.resolve_left (by show ¬ m + 4 ≤ 1; omega)
    rcases hv with ⟨b, h1, h2⟩ | h1
    · exact Or.inl ⟨b, (bkF_ne n7).trans h1, h2⟩
    · exact Or.inr h1
theorem HT_forget {bk : aB} {h : jH} (hT : HT TTs g bk h) : HT TTs g (bkF bk) h := by
  intro B b o t hb ht
  obtain ⟨h7, hb⟩ := bkF_some hb
  obtain ⟨c, hc, hct⟩ := hT B b o t hb ht
  refine ⟨c, hc, ?_⟩
  cases t with
  | inl a => exact hct
  | inr q =>
    obtain ⟨fs, e1, e2, e3⟩ := hct
    refine ⟨fs, e1, e2, fun k t hk => ?_⟩
    obtain ⟨v, v1, v2⟩ := e3 k t hk
    exact ⟨v, v1, ft_forget (no7_ok h7 ht (List.mem_of_getElem? hk)) v2⟩
theorem BD_forget {bk : aB} (hD : BD TTs bk) : BD TTs (bkF bk) := fun B B' b b' o o' h1 h2 => hD B B' b b' o o' (bkF_some h1).2 (bkF_some h2).2
theorem EIm_forget {bk : aB} {h : jH} (hE : EIm n bk h) : EIm n (bkF bk) h := fun b f F K hb => hE b f F K (bkF_some hb).2
theorem lwR_F {bk : aB} {h : jH} (hR : lwR bk h) : lwR (bkF bk) h := by
  intro b0 b1 q0 q1
  obtain ⟨r0, r1, r2⟩ := hR b0 b1 (bkF_some q0).2 (bkF_some q1).2
  have tr : ∀ k, k < 2 → rlI b1 k bk h → rlI b1 k (bkF bk) h := fun k hk hr => by
    rcases hr with ⟨x1, x2⟩ | ⟨a, x1, x2⟩
    · exact Or.inl ⟨(bkF_ne (by omega)).trans x1, x2⟩
    · exact Or.inr ⟨a, (bkF_ne (by omega)).trans x1, x2⟩
  exact ⟨r0, tr 0 (by decide) r1, tr 1 (by decide) r2⟩
/-- b0: the class's object, b1: the reference's -/
def lwI (g : jG) (n : Int) (b0 b1 : Nat) (bk : aB) (h : jH) : Prop :=
  HT TTs g bk h ∧ BD TTs bk ∧ EIm n bk h ∧ bk 0 = some b0 ∧ bk 1 = some b1 ∧ bk 7 = none ∧ (∀ f : Nat → Int32, h[b1 + 1]? = some (.inl (0, 5270, f)) → (f 1).toInt ≤ n ∧ (f 5066).toInt ≤ n) ∧ lwR bk h
theorem lwI.b01 {b0 b1 : Nat} {bk : aB} {h : jH} (hI : lwI g n b0 b1 bk h) : ∀ B, B ≤ 1 → ∃ b, bk B = some b := by
  intro B hB
  have h2 : B = 0 ∨ B = 1 := by omega
  rcases h2 with rfl | rfl
  · exact ⟨b0, hI.2.2.2.1⟩
  · exact ⟨b1, hI.2.2.2.2.1⟩
theorem lwI.ok {b0 b1 : Nat} {bk : aB} {h : jH} (hI : lwI g n b0 b1 bk h) (W : List aR) : hOK TTs g (EIm n) W bk h bk h := hOK.rf hI.1 hI.2.1 hI.2.2.1 hI.b01
/-- the reference's row and its counters -/
theorem lwI.row {b0 b1 : Nat} {bk : aB} {h : jH} (hI : lwI g n b0 b1 bk h) : ∃ f : Nat → Int32, h[b1 + 1]? = some (.inl (0, 5270, f)) ∧ (0 ≤ (f 1).toInt ∧ (f 1).toInt ≤ n) ∧ 0 ≤ (f 5066).toInt ∧ (f 5066).toInt ≤ n := by
  obtain ⟨f, h1, h2⟩ := m_arr hI.1 hI.2.2.2.2.1 ty_m1
  obtain ⟨n1, n2⟩ := hI.2.2.2.2.2.2.1 f h1
  have a1 := h2 1 (by decide)
  have a2 := h2 5066 (by decide)
  refine ⟨f, h1, ⟨?_, n1⟩, ?_, n2⟩
  · exact (a1 (1, 1, 1, [(0, 1073741824)]) (by decide +kernel) (by decide) (by decide) (0, 1073741824) rfl).1
  · exact (a2 (5066, 1, 1, [(0, 1073741824)]) (by decide +kernel) (by decide) (by decide) (0, 1073741824) rfl).1
/-- after a call: the counters as they are, at most n' -/
theorem lwI.step {b0 b1 : Nat} {bk bk' : aB} {h h' : jH} {W : List aR} {n' : Int} (hI : lwI g n b0 b1 bk h) (hO : hOK TTs g (EIm n) W bk h bk' h') (hn : n ≤ n') (hc : ∀ f : Nat → Int32, h'[b1 + 1]? = some (.inl (0, 5270, f)) → (f 1).toInt ≤ n' ∧ (f 5066).toInt ≤ n') (hR : lwR bk' h') : lwI g n' b0 b1 (bkF bk') h' :=
  ⟨HT_forget hO.1, BD_forget hO.2.1, EIm_forget (EIm_mono hn hO.2.2.1), (bkF_ne (by decide)).trans (hO.2.2.2.2.1 0 b0 hI.2.2.2.1), (bkF_ne (by decide)).trans (hO.2.2.2.2.1 1 b1 hI.2.2.2.2.1), by rw [bkF, if_pos rfl], hc, lwR_F hR⟩
/-- a call that writes neither counter -/
theorem lwI.stepN {b0 b1 : Nat} {bk bk' : aB} {h h' : jH} {W : List aR} {n' : Int} (hI : lwI g n b0 b1 bk h) (hO : hOK TTs g (EIm n) W bk h bk' h') (hn : n ≤ n') (h1 : apW W [(1, 1, 1, 1)] = true) (h2 : apW W [(1, 1, 5066, 5066)] = true) (h3 : apW W rlF = true) : lwI g n' b0 b1 (bkF bk') h' := by
  refine hI.step hO hn (fun f' hf' => ?_) (lwR_keep hI.1 hO hI.b01 h3 hI.2.2.2.2.2.2.2)
  obtain ⟨f, e1, e2, e3⟩ := hI.row
  obtain ⟨f1, q1, q2⟩ := hOK.arr hO hI.2.2.2.2.1 ty_m1 e1 h1
  obtain ⟨f2, q3, q4⟩ := hOK.arr hO hI.2.2.2.2.1 ty_m1 e1 h2
  rw [hf'] at q1 q3
  cases q1
  cases q3
  rw [q2 1 (by decide) (by decide), q4 5066 (by decide) (by decide)]
  omega
end LQ
