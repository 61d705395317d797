/-! the law's start: the classes, the arrays' classes, the String constants, the script -/
section LG
def lwF : List Cond := flatC (Jvm.Cond.and given_1 narrow_1)
theorem sg_m1 : ∀ i, i < 13 → Cond.exactly (Term.string "TrainDescriber$Parser" (jsx.getD i 0)) "java/lang/String" ∈ lwF := by decide +kernel
theorem sg_m2 : ∀ i, i < 13 → Cond.eq (.field (Term.string "TrainDescriber$Parser" (jsx.getD i 0)) "java/lang/String" "coder" "B") (.int 0) ∈ lwF := by decide +kernel
theorem sg_m3 : ∀ i, i < 13 → Cond.arrayOf (.field (Term.string "TrainDescriber$Parser" (jsx.getD i 0)) "java/lang/String" "value" "[B") .byte ∈ lwF := by decide +kernel
theorem sg_m4 : ∀ i, i < 13 → Cond.eq (.length (.field (Term.string "TrainDescriber$Parser" (jsx.getD i 0)) "java/lang/String" "value" "[B")) (.int (Int32.ofNat (jsl.getD i 0))) ∈ lwF := by decide +kernel
theorem sg_m5 : ∀ i, i < 13 → ∀ j, j < jsl.getD i 0 → Cond.eq (.elem (.field (Term.string "TrainDescriber$Parser" (jsx.getD i 0)) "java/lang/String" "value" "[B") (.int (Int32.ofNat j))) (.int ((jsb.getD i []).getD j 0)) ∈ lwF := by decide +kernel
theorem sg_m6 : ∀ i, i < 13 → ∀ j, j < 13 → i ≠ j → Cond.not (Cond.eq (Term.string "TrainDescriber$Parser" (jsx.getD i 0)) (Term.string "TrainDescriber$Parser" (jsx.getD j 0))) ∈ lwF ∨ Cond.not (Cond.eq (Term.string "TrainDescriber$Parser" (jsx.getD j 0)) (Term.string "TrainDescriber$Parser" (jsx.getD i 0))) ∈ lwF := by decide +kernel
theorem sg_m7 : Cond.eq (.static "java/lang/String" "COMPACT_STRINGS" "Z") (.int 1) ∈ lwF := by decide +kernel
theorem sg_m8 : Cond.isRef (.static "jdk/internal/util/Preconditions" "SIOOBE_FORMATTER" "Ljava/util/function/BiFunction;") ∈ lwF := by decide +kernel
theorem sg_w : ∀ i, i < 13 → Cond.stringRef "TrainDescriber$Parser" (jsx.getD i 0) (jsT.getD i "") ∈ lw_tbl := by
  intro i hi
  have h2 : i = 0 ∨ i = 1 ∨ i = 2 ∨ i = 3 ∨ i = 4 ∨ i = 5 ∨ i = 6 ∨ i = 7 ∨ i = 8 ∨ i = 9 ∨ i = 10 ∨ i = 11 ∨ i = 12 := by omega
  rcases h2 with rfl | rfl | rfl | rfl | rfl | rfl | rfl | rfl | rfl | rfl | rfl | rfl | rfl
  · exact List.mem_of_getElem? (i := 668) (by decide +kernel)
  · exact List.mem_of_getElem? (i := 720) (by decide +kernel)
  · exact List.mem_of_getElem? (i := 721) (by decide +kernel)
  · exact List.mem_of_getElem? (i := 722) (by decide +kernel)
  · exact List.mem_of_getElem? (i := 723) (by decide +kernel)
  · exact List.mem_of_getElem? (i := 724) (by decide +kernel)
  · exact List.mem_of_getElem? (i := 725) (by decide +kernel)
  · exact List.mem_of_getElem? (i := 729) (by decide +kernel)
  · exact List.mem_of_getElem? (i := 730) (by decide +kernel)
  · exact List.mem_of_getElem? (i := 731) (by decide +kernel)
  · exact List.mem_of_getElem? (i := 732) (by decide +kernel)
  · exact List.mem_of_getElem? (i := 733) (by decide +kernel)
  · exact List.mem_of_getElem? (i := 734) (by decide +kernel)
theorem x32_nat (x : Int32) : Int32.ofNat (x.toInt % 4294967296).toNat = x := by
  refine i32_eq ?_
  have h1 := i32_lo x
  have h2 := i32_hi x
  rw [Int32.toInt_ofNat', show Int32.size = 4294967296 from rfl]
  have h3 : (((x.toInt % 4294967296).toNat : Nat) : Int) = x.toInt % 4294967296 := by omega
  rw [h3]
  unfold Int.bmod
  dsimp only
  split <;> omega
theorem law_g {p : Program} {s : State} {m : MethodId} {meth : Method} {c : Code} {b L : Nat} {xs : Nat → Int32} (C0 : lw_At p s m meth c b L xs) : ∃ g : jG, jK g s ∧ g.2.2 = s.heap.size ∧ g.2.1 80 = b ∧ jsN g = L ∧ ∀ i, jsX g i = xs i := by
  obtain ⟨hx, hb, hr, hml, hown, hts, hX, hbl, hlocks, hgv, hnm⟩ := C0
  have hA : ∀ a : Nat, a < s.heap.size → ¬ (fun q : Nat => s.heap.size ≤ q) a := fun a h => Nat.not_le.mpr h
  have hfl : ∀ w ∈ lwF, w.before #[Value.ref b] s = true := flat_of_before _ hgv
  have hcl : ∀ k : Nat, ∃ q : ClassId × (Nat → Nat), ∀ r : vw_C, jcl[k]? = some r → u_Kn s r.1 r.2.1 r.2.2 q.1 q.2 := by
    intro k
    cases hk : jcl[k]? with
    | none => exact ⟨(0, fun _ => 0), fun r h => by cases h⟩
    | some r =>
      have hin := (jcl_in hk).1
      have hi : (Cond.instantiable r.1 r.2.2).before #[Value.ref b] s = true := by
        match k, hk with
        | 0, hk => cases hk; exact hts _ (jeO_tb 0 (by decide))
        | 1, hk => cases hk; exact hts _ (jeO_tb 1 (by decide))
        | 2, hk => cases hk; exact hts _ (jeO_tb 2 (by decide))
        | 3, hk => cases hk; exact hts _ (jeO_tb 3 (by decide))
        | 4, hk => cases hk; exact hts _ (jeO_tb 4 (by decide))
        | 5, hk => cases hk; exact hts _ (jeO_tb 5 (by decide))
        | 6, hk => cases hk; exact hts _ (jeO_tb 6 (by decide))
        | 7, hk => cases hk; exact hts _ (jeO_tb 7 (by decide))
        | 8, hk => cases hk; exact hts _ (jeO_tb 8 (by decide))
        | 9, hk => cases hk; exact hts _ (jeO_tb 9 (by decide))
        | 10, hk => cases hk; exact hts _ (jeO_tb 10 (by decide))
        | 11, hk => cases hk; exact hts _ (jeO_tb 11 (by decide))
        | 12, hk => cases hk; exact hts _ (jeO_tb 12 (by decide))
        | k + 13, hk => simp [jcl] at hk
      obtain ⟨cC, iS, h1⟩ := u_known (C := r.1) (T := r.2.1) (N := r.2.2) (n := r.2.2) hts (fun w hw => (List.mem_filter.mp (hin w hw)).1) hi
      exact ⟨(cC, iS), fun r' h => by cases h; exact h1⟩
  obtain ⟨ad, had⟩ := Classical.axiomOfChoice hcl
  obtain ⟨cI, kI, compI, i1, i2, i3⟩ := Cond.arrayClass_spec (hts _ (List.mem_filter.mp jarr_int).1)
  obtain ⟨cZ, kZ, compZ, z1, z2, z3⟩ := Cond.arrayClass_spec (hts _ (List.mem_filter.mp jarr_boolean).1)
  obtain ⟨adK, adV, hV, hev⟩ := vk_Sof (args := #[Value.ref b]) (s := s) (N := 13) (tm := fun i => Term.string "TrainDescriber$Parser" (jsx.getD i 0)) (len := jsl) (byt := jsb) (A := fun q => s.heap.size ≤ q) (by decide) (fun i hi => hfl _ (sg_m1 i hi)) (fun i hi => hfl _ (sg_m2 i hi)) (fun i hi => hfl _ (sg_m3 i hi)) (fun i hi => hfl _ (sg_m4 i hi)) (fun i hi j hj => hfl _ (sg_m5 i hi j hj)) (fun i j hi hj hij => by
    rcases sg_m6 i hi j hj hij with h | h
    · exact Or.inl (hfl _ h)
    · exact Or.inr (hfl _ h)) hA
  have hZ := va_Zof (A := fun q : Nat => s.heap.size ≤ q) (hts (Cond.laysStatic "java/lang/String" "COMPACT_STRINGS" "Z") (List.mem_of_getElem? (i := 681) (by decide +kernel))) (hts (Cond.initialized "java/lang/String") (List.mem_of_getElem? (i := 98) (by decide +kernel))) (va_eqt (hfl _ sg_m7)) hA
  have hQ := va_Zqof (A := fun q : Nat => s.heap.size ≤ q) (hts (Cond.laysStatic "jdk/internal/util/Preconditions" "SIOOBE_FORMATTER" "Ljava/util/function/BiFunction;") (List.mem_of_getElem? (i := 697) (by decide +kernel))) (hts (Cond.initialized "jdk/internal/util/Preconditions") (List.mem_of_getElem? (i := 100) (by decide +kernel))) (hfl _ sg_m8) hA
  have eK : ∀ i, i < 13 → (if 2 + i = 0 then cI else if 2 + i = 1 then cZ else if 2 + i < 15 then adK (2 + i - 2) else if 32 ≤ 2 + i ∧ 2 + i < 45 then adV (2 + i - 32) else if 2 + i = 80 then b else if 2 + i = 81 then L else ((xs (2 + i - 100)).toInt % 4294967296).toNat) = adK i := fun i hi => by
    rw [if_neg (by omega), if_neg (by omega), if_pos (by omega), show 2 + i - 2 = i by omega]
  have eV : ∀ i, i < 13 → (if 32 + i = 0 then cI else if 32 + i = 1 then cZ else if 32 + i < 15 then adK (32 + i - 2) else if 32 ≤ 32 + i ∧ 32 + i < 45 then adV (32 + i - 32) else if 32 + i = 80 then b else if 32 + i = 81 then L else ((xs (32 + i - 100)).toInt % 4294967296).toNat) = adV i := fun i hi => by
    rw [if_neg (by omega), if_neg (by omega), if_neg (by omega), if_pos (by omega), show 32 + i - 32 = i by omega]
  have eX : ∀ i, (if 100 + i = 0 then cI else if 100 + i = 1 then cZ else if 100 + i < 15 then adK (100 + i - 2) else if 32 ≤ 100 + i ∧ 100 + i < 45 then adV (100 + i - 32) else if 100 + i = 80 then b else if 100 + i = 81 then L else ((xs (100 + i - 100)).toInt % 4294967296).toNat) = ((xs i).toInt % 4294967296).toNat := fun i => by
    rw [if_neg (by omega), if_neg (by omega), if_neg (by omega), if_neg (by omega), if_neg (by omega), if_neg (by omega), show 100 + i - 100 = i by omega]
  let g : jG := ((fun k => (ad k).1, fun k => (ad k).2), fun k => if k = 0 then cI else if k = 1 then cZ else if k < 15 then adK (k - 2) else if 32 ≤ k ∧ k < 45 then adV (k - 32) else if k = 80 then b else if k = 81 then L else ((xs (k - 100)).toInt % 4294967296).toNat, s.heap.size)
  have gK : ∀ i, i < 13 → jAK g i = adK i := eK
  have gV : ∀ i, i < 13 → jAV g i = adV i := eV
  have gX : ∀ i, jsX g i = xs i := fun i => by
    show Int32.ofNat (if 100 + i = 0 then cI else _) = _
    rw [eX i]
    exact x32_nat (xs i)
  refine ⟨g, ⟨⟨fun k r hk => had k r hk, fun k q hk => ?_⟩, fun q hq => va_Nw.of rfl (hts _ (jeN_tb q hq)), ⟨fun i hi => ?_, fun i j hi hj e => ?_⟩, fun i hi => ?_, hZ, hQ, ?_, hbl⟩, rfl, rfl, rfl, gX⟩
  · match k, hk with
    | 0, hk => cases hk; exact ⟨fun n z => ⟨fun k h => (by cases h), kI, i2, compI, i3⟩, i1⟩
    | 1, hk => cases hk; exact ⟨fun n z => ⟨fun k h => (by cases h), kZ, z2, compZ, z3⟩, z1⟩
    | k + 2, hk => simp [jtys] at hk
  · rw [gK i hi, gV i hi]
    exact hV.1 i hi
  · rw [gK i hi, gK j hj] at e
    exact hV.2 i j hi hj e
  · rw [gK i hi]
    exact vk_R.of (hts _ (sg_w i hi)) (hev i hi)
  · have e : jsX g = xs := funext gX
    rw [e]
    exact hX
end LG
