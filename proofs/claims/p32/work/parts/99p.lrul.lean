/-! the law's own rules: its script's length, its script's ints -/
section LR
variable {l : Launch} {g : jG} {y d pc : Nat} {al : List (Option Value)} {st : List Value} {h : jH} {kc ks : Nat} {Q : Option Value → jH → Prop}
theorem j_slen (hd : decode (jbC y) pc = .ok (.arraylength, 1)) (k : J l g y d (pc + 1) al (.int (Int32.ofNat (jsN g)) :: st) h kc ks Q) : J l g y d pc al (.ref (g.2.1 80) :: st) h kc ks Q := by
  intro p e R s m args below meth c Z MC MS X K r1 r2 r3 r4 hZ H locs cells slots ls hW hl c1 c2
  obtain ⟨hX, hlt⟩ := K.2.2.2.2.2.2
  obtain ⟨cell, h1, h2, h3, h4, h5⟩ := hX.kept (hW.2.1 _ hlt)
  exact W.alen (n := Int32.ofNat (jsN g)) X.1 X.2.1 h1 h2 (by rw [h4]) rfl rfl hd (k p e R s m args below meth c Z MC MS X K r1 r2 r3 r4 hZ H locs cells slots ls hW hl c1 c2)
theorem j_sld {z : Int32} (hz : vp_in z (jsN g)) (hd : decode (jbC y) pc = .ok (.iaload, 1)) (k : J l g y d (pc + 1) al (.int (jsX g z.toNatClampNeg) :: st) h kc ks Q) : J l g y d pc al (.int z :: .ref (g.2.1 80) :: st) h kc ks Q := by
  intro p e R s m args below meth c Z MC MS X K r1 r2 r3 r4 hZ H locs cells slots ls hW hl c1 c2
  obtain ⟨hX, hlt⟩ := K.2.2.2.2.2.2
  obtain ⟨cell, h1, h2, h3, h4, h5⟩ := hX.kept (hW.2.1 _ hlt)
  have hlt2 : z.toNatClampNeg < jsN g := Nat.not_le.mp fun q => hz (Or.inr q)
  have hin' : ¬ (z < 0 ∨ cell.slots.size ≤ z.toNatClampNeg) := by
    intro q
    rcases q with q | q
    · exact hz (Or.inl q)
    · omega
  exact W.iald (v := .int (jsX g z.toNatClampNeg)) X.1 X.2.1 h1 h2 h3 hin' (h5 _ hlt2) rfl rfl hd (k p e R s m args below meth c Z MC MS X K r1 r2 r3 r4 hZ H locs cells slots ls hW hl c1 c2)
end LR
/-- the law's walk from its walk in the J layer -/
theorem whole_start_of (HJ : ∀ (l : Launch) (g : jG), jsN g ≤ 3072 → J l g 315 100 0 (jal 315 [.ref (g.2.1 80)]) [] [] rmC rmS (fun v _ => v = some (.int 1))) (l : Launch) {p : Program} {e : Env} {s : State} {m : MethodId} {below : List Frame} {meth : Method} {c : Code} {b L : Nat} {xs : Nat → Int32} (hbd : L ≤ 3072) (C0 : lw_At p s m meth c b L xs) :
    W p l e room_1 s m #[Value.ref b] below meth c s.heap [] 0 0 (lw_Z below #[Value.ref b] s) (entryFrame m ([Value.ref b] : List Value).toArray 4) := by
  obtain ⟨g, hK, hg, h80, hN, hXs⟩ := law_g C0
  obtain ⟨hx, hb, hr, hml, hown, hts, hX, hbl, hlocks, hgv, hnm⟩ := C0
  have e1 : jbC 315 = code := rfl
  have e2 : jyN 315 = x := rfl
  have e3 : jmx 315 = 4 := by decide +kernel
  have e4 : jrT 315 = some .boolean := rfl
  have hl := lv_entry (n := 4) [Value.ref b] (show 1 ≤ 4 by decide)
  rw [lg_entry_eq]
  have hl' : jls ((lg_sl [Value.ref b] ++ List.replicate (4 - (lg_sl [Value.ref b]).length) Slot.unset).toArray) 315 (jal 315 [.ref (g.2.1 80)]) := by
    rw [h80]
    refine ⟨by rw [e3]; exact hl.1, hl.2.1, fun q hq => hl.2.2 q (jal_in hq)⟩
  refine HJ l g (by rw [hN]; exact hbd) p e room_1 s m _ below meth c _ rmC rmS ⟨hx, by rw [e1]; exact hb, by rw [e3]; exact hml, by rw [e4]; exact hr, by rw [e2]; exact hown, fun w hw => hts w (List.mem_filter.mp hw).1, hlocks, by rw [e2]; exact hnm⟩ hK (by decide) (by decide) (by decide) (by decide) ?_ s.heap [] 0 0 _ ⟨⟨by rw [hg]; rfl, fun k q hq => by cases hq⟩, fun _ _ => rfl, by rw [hg]; exact Nat.le_refl _, fun _ h => absurd h List.not_mem_nil⟩ hl' (by decide) (by decide)
  intro pc ls H locs h2 v hv hW hq
  subst hq
  have hd : decode code pc = .ok (.ireturn, 1) := by rw [← e1]; exact hv.1
  exact va_forget (fun q hq => by rw [← hg]; exact hW.2.2.2 q hq) (lw_ret hx hb hr hlocks hd)
