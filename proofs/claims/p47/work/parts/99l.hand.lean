/-! the contracts proved by hand, all -/
section HD
variable {l : Launch} {g : jG} {n : Int}
set_option maxRecDepth 16384 in
theorem hand_all :
    ∀ (k : Nat) (K : aK), hdL.contains k = true → KTx[k]? = some K → (∀ (k' : Nat) (K' : aK), k' < k → KTx[k']? = some K' → kOK TTs g (EIm n) l K') → kOK TTs g (EIm n) l K := by
  intro k K hk hK hlow
  have h1 : k ∈ hdL := List.contains_iff_mem.mp hk
  simp only [hdL, List.mem_cons, List.not_mem_nil, or_false] at h1
  rcases h1 with rfl | rfl | rfl | rfl | rfl | rfl | rfl | rfl | rfl | rfl | rfl | rfl | rfl | rfl | rfl | rfl | rfl | rfl | rfl | rfl | rfl | rfl | rfl | rfl | rfl | rfl | rfl | rfl | rfl | rfl | rfl | rfl | rfl | rfl | rfl | rfl | rfl | rfl | rfl | rfl | rfl | rfl | rfl | rfl | rfl | rfl | rfl | rfl | rfl | rfl | rfl | rfl | rfl | rfl | rfl | rfl | rfl | rfl | rfl | rfl | rfl | rfl | rfl | rfl | rfl | rfl | rfl | rfl | rfl | rfl | rfl | rfl | rfl | rfl | rfl | rfl | rfl | rfl | rfl | rfl | rfl | rfl | rfl | rfl | rfl | rfl | rfl | rfl | rfl | rfl | rfl | rfl | rfl | rfl | rfl | rfl | rfl | rfl | rfl | rfl | rfl | rfl | rfl | rfl
  · cases hK
    exact wordKind_ok
  · cases hK
    exact tokenize_ok (fun k K hk hK => hlow k K hk hK)
  · cases hK
    exact smd_ok (fun k K hK hk => hlow k K hk hK)
  · cases hK
    exact note_ok (ka := 3) (kb := 5) (sa := 0) (sb := 11) (ga := -1) (gb := 11) (by omega) (fun k s q a1 a2 a3 a4 => by omega)
  · cases hK
    exact so_ok (t := 0) (k := 0) (by decide) (by decide)
  · cases hK
    exact so_ok (t := 0) (k := 1) (by decide) (by decide)
  · cases hK
    exact so_ok (t := 0) (k := 2) (by decide) (by decide)
  · cases hK
    exact so_ok (t := 0) (k := 3) (by decide) (by decide)
  · cases hK
    exact so_ok (t := 0) (k := 4) (by decide) (by decide)
  · cases hK
    exact so_ok (t := 0) (k := 5) (by decide) (by decide)
  · cases hK
    exact so_ok (t := 0) (k := 6) (by decide) (by decide)
  · cases hK
    exact so_ok (t := 0) (k := 7) (by decide) (by decide)
  · cases hK
    exact so_ok (t := 0) (k := 8) (by decide) (by decide)
  · cases hK
    exact so_ok (t := 0) (k := 9) (by decide) (by decide)
  · cases hK
    exact so_ok (t := 0) (k := 10) (by decide) (by decide)
  · cases hK
    exact so_ok (t := 0) (k := 11) (by decide) (by decide)
  · cases hK
    exact so_ok (t := 0) (k := 12) (by decide) (by decide)
  · cases hK
    exact so_ok (t := 0) (k := 13) (by decide) (by decide)
  · cases hK
    exact so_ok (t := 0) (k := 14) (by decide) (by decide)
  · cases hK
    exact so_ok (t := 0) (k := 15) (by decide) (by decide)
  · cases hK
    exact note_ok (ka := 0) (kb := 7) (sa := 0) (sb := 11) (ga := 0) (gb := 11) (by omega) (fun k s q a1 a2 a3 a4 => by omega)
  · cases hK
    exact note_ok (ka := 1) (kb := 1) (sa := 0) (sb := 11) (ga := -1) (gb := 11) (by omega) (fun k s q a1 a2 a3 a4 => by omega)
  · cases hK
    exact note_ok (ka := 2) (kb := 2) (sa := -1) (sb := 11) (ga := 0) (gb := 11) (by omega) (fun k s q a1 a2 a3 a4 => by omega)
  · cases hK
    exact moves_ok1 (t := 0) (k := 0) (by decide) (by decide) (fun k K hK hk => hlow k K (Nat.lt_of_lt_of_le hk (by decide)) hK)
  · cases hK
    exact moves_ok1 (t := 0) (k := 1) (by decide) (by decide) (fun k K hK hk => hlow k K (Nat.lt_of_lt_of_le hk (by decide)) hK)
  · cases hK
    exact moves_ok1 (t := 0) (k := 2) (by decide) (by decide) (fun k K hK hk => hlow k K (Nat.lt_of_lt_of_le hk (by decide)) hK)
  · cases hK
    exact moves_ok1 (t := 0) (k := 3) (by decide) (by decide) (fun k K hK hk => hlow k K (Nat.lt_of_lt_of_le hk (by decide)) hK)
  · cases hK
    exact moves_ok1 (t := 0) (k := 4) (by decide) (by decide) (fun k K hK hk => hlow k K (Nat.lt_of_lt_of_le hk (by decide)) hK)
  · cases hK
    exact moves_ok1 (t := 0) (k := 5) (by decide) (by decide) (fun k K hK hk => hlow k K (Nat.lt_of_lt_of_le hk (by decide)) hK)
  · cases hK
    exact moves_ok1 (t := 0) (k := 6) (by decide) (by decide) (fun k K hK hk => hlow k K (Nat.lt_of_lt_of_le hk (by decide)) hK)
  · cases hK
    exact moves_ok1 (t := 0) (k := 7) (by decide) (by decide) (fun k K hK hk => hlow k K (Nat.lt_of_lt_of_le hk (by decide)) hK)
  · cases hK
    exact moves_ok1 (t := 0) (k := 8) (by decide) (by decide) (fun k K hK hk => hlow k K (Nat.lt_of_lt_of_le hk (by decide)) hK)
  · cases hK
    exact moves_ok1 (t := 0) (k := 9) (by decide) (by decide) (fun k K hK hk => hlow k K (Nat.lt_of_lt_of_le hk (by decide)) hK)
  · cases hK
    exact moves_ok1 (t := 0) (k := 10) (by decide) (by decide) (fun k K hK hk => hlow k K (Nat.lt_of_lt_of_le hk (by decide)) hK)
  · cases hK
    exact moves_ok1 (t := 0) (k := 11) (by decide) (by decide) (fun k K hK hk => hlow k K (Nat.lt_of_lt_of_le hk (by decide)) hK)
  · cases hK
    exact moves_ok1 (t := 0) (k := 12) (by decide) (by decide) (fun k K hK hk => hlow k K (Nat.lt_of_lt_of_le hk (by decide)) hK)
  · cases hK
    exact moves_ok1 (t := 0) (k := 13) (by decide) (by decide) (fun k K hK hk => hlow k K (Nat.lt_of_lt_of_le hk (by decide)) hK)
  · cases hK
    exact moves_ok1 (t := 0) (k := 14) (by decide) (by decide) (fun k K hK hk => hlow k K (Nat.lt_of_lt_of_le hk (by decide)) hK)
  · cases hK
    exact moves_ok1 (t := 0) (k := 15) (by decide) (by decide) (fun k K hK hk => hlow k K (Nat.lt_of_lt_of_le hk (by decide)) hK)
  · cases hK
    exact so_ok (t := 1) (k := 0) (by decide) (by decide)
  · cases hK
    exact so_ok (t := 1) (k := 1) (by decide) (by decide)
  · cases hK
    exact so_ok (t := 1) (k := 2) (by decide) (by decide)
  · cases hK
    exact so_ok (t := 1) (k := 3) (by decide) (by decide)
  · cases hK
    exact so_ok (t := 1) (k := 4) (by decide) (by decide)
  · cases hK
    exact so_ok (t := 1) (k := 5) (by decide) (by decide)
  · cases hK
    exact so_ok (t := 1) (k := 6) (by decide) (by decide)
  · cases hK
    exact so_ok (t := 1) (k := 7) (by decide) (by decide)
  · cases hK
    exact so_ok (t := 1) (k := 8) (by decide) (by decide)
  · cases hK
    exact so_ok (t := 1) (k := 9) (by decide) (by decide)
  · cases hK
    exact so_ok (t := 1) (k := 10) (by decide) (by decide)
  · cases hK
    exact so_ok (t := 1) (k := 11) (by decide) (by decide)
  · cases hK
    exact so_ok (t := 1) (k := 12) (by decide) (by decide)
  · cases hK
    exact so_ok (t := 1) (k := 13) (by decide) (by decide)
  · cases hK
    exact so_ok (t := 1) (k := 14) (by decide) (by decide)
  · cases hK
    exact so_ok (t := 1) (k := 15) (by decide) (by decide)
  · cases hK
    exact moves_ok1 (t := 1) (k := 0) (by decide) (by decide) (fun k K hK hk => hlow k K (Nat.lt_of_lt_of_le hk (by decide)) hK)
  · cases hK
    exact moves_ok1 (t := 1) (k := 1) (by decide) (by decide) (fun k K hK hk => hlow k K (Nat.lt_of_lt_of_le hk (by decide)) hK)
  · cases hK
    exact moves_ok1 (t := 1) (k := 2) (by decide) (by decide) (fun k K hK hk => hlow k K (Nat.lt_of_lt_of_le hk (by decide)) hK)
  · cases hK
    exact moves_ok1 (t := 1) (k := 3) (by decide) (by decide) (fun k K hK hk => hlow k K (Nat.lt_of_lt_of_le hk (by decide)) hK)
  · cases hK
    exact moves_ok1 (t := 1) (k := 4) (by decide) (by decide) (fun k K hK hk => hlow k K (Nat.lt_of_lt_of_le hk (by decide)) hK)
  · cases hK
    exact moves_ok1 (t := 1) (k := 5) (by decide) (by decide) (fun k K hK hk => hlow k K (Nat.lt_of_lt_of_le hk (by decide)) hK)
  · cases hK
    exact moves_ok1 (t := 1) (k := 6) (by decide) (by decide) (fun k K hK hk => hlow k K (Nat.lt_of_lt_of_le hk (by decide)) hK)
  · cases hK
    exact moves_ok1 (t := 1) (k := 7) (by decide) (by decide) (fun k K hK hk => hlow k K (Nat.lt_of_lt_of_le hk (by decide)) hK)
  · cases hK
    exact moves_ok1 (t := 1) (k := 8) (by decide) (by decide) (fun k K hK hk => hlow k K (Nat.lt_of_lt_of_le hk (by decide)) hK)
  · cases hK
    exact moves_ok1 (t := 1) (k := 9) (by decide) (by decide) (fun k K hK hk => hlow k K (Nat.lt_of_lt_of_le hk (by decide)) hK)
  · cases hK
    exact moves_ok1 (t := 1) (k := 10) (by decide) (by decide) (fun k K hK hk => hlow k K (Nat.lt_of_lt_of_le hk (by decide)) hK)
  · cases hK
    exact moves_ok1 (t := 1) (k := 11) (by decide) (by decide) (fun k K hK hk => hlow k K (Nat.lt_of_lt_of_le hk (by decide)) hK)
  · cases hK
    exact moves_ok1 (t := 1) (k := 12) (by decide) (by decide) (fun k K hK hk => hlow k K (Nat.lt_of_lt_of_le hk (by decide)) hK)
  · cases hK
    exact moves_ok1 (t := 1) (k := 13) (by decide) (by decide) (fun k K hK hk => hlow k K (Nat.lt_of_lt_of_le hk (by decide)) hK)
  · cases hK
    exact moves_ok1 (t := 1) (k := 14) (by decide) (by decide) (fun k K hK hk => hlow k K (Nat.lt_of_lt_of_le hk (by decide)) hK)
  · cases hK
    exact moves_ok1 (t := 1) (k := 15) (by decide) (by decide) (fun k K hK hk => hlow k K (Nat.lt_of_lt_of_le hk (by decide)) hK)
  · cases hK
    exact reached_ok (fun k K hK hk => hlow k K hk hK)
  · cases hK
    exact moves_ok0 (t := 0) (k := 0) (by decide) (by decide) (fun k K hK hk => hlow k K (Nat.lt_of_lt_of_le hk (by decide)) hK)
  · cases hK
    exact moves_ok0 (t := 0) (k := 1) (by decide) (by decide) (fun k K hK hk => hlow k K (Nat.lt_of_lt_of_le hk (by decide)) hK)
  · cases hK
    exact moves_ok0 (t := 0) (k := 2) (by decide) (by decide) (fun k K hK hk => hlow k K (Nat.lt_of_lt_of_le hk (by decide)) hK)
  · cases hK
    exact moves_ok0 (t := 0) (k := 3) (by decide) (by decide) (fun k K hK hk => hlow k K (Nat.lt_of_lt_of_le hk (by decide)) hK)
  · cases hK
    exact moves_ok0 (t := 0) (k := 4) (by decide) (by decide) (fun k K hK hk => hlow k K (Nat.lt_of_lt_of_le hk (by decide)) hK)
  · cases hK
    exact moves_ok0 (t := 0) (k := 5) (by decide) (by decide) (fun k K hK hk => hlow k K (Nat.lt_of_lt_of_le hk (by decide)) hK)
  · cases hK
    exact moves_ok0 (t := 0) (k := 6) (by decide) (by decide) (fun k K hK hk => hlow k K (Nat.lt_of_lt_of_le hk (by decide)) hK)
  · cases hK
    exact moves_ok0 (t := 0) (k := 7) (by decide) (by decide) (fun k K hK hk => hlow k K (Nat.lt_of_lt_of_le hk (by decide)) hK)
  · cases hK
    exact moves_ok0 (t := 0) (k := 8) (by decide) (by decide) (fun k K hK hk => hlow k K (Nat.lt_of_lt_of_le hk (by decide)) hK)
  · cases hK
    exact moves_ok0 (t := 0) (k := 9) (by decide) (by decide) (fun k K hK hk => hlow k K (Nat.lt_of_lt_of_le hk (by decide)) hK)
  · cases hK
    exact moves_ok0 (t := 0) (k := 10) (by decide) (by decide) (fun k K hK hk => hlow k K (Nat.lt_of_lt_of_le hk (by decide)) hK)
  · cases hK
    exact moves_ok0 (t := 0) (k := 11) (by decide) (by decide) (fun k K hK hk => hlow k K (Nat.lt_of_lt_of_le hk (by decide)) hK)
  · cases hK
    exact moves_ok0 (t := 0) (k := 12) (by decide) (by decide) (fun k K hK hk => hlow k K (Nat.lt_of_lt_of_le hk (by decide)) hK)
  · cases hK
    exact moves_ok0 (t := 0) (k := 13) (by decide) (by decide) (fun k K hK hk => hlow k K (Nat.lt_of_lt_of_le hk (by decide)) hK)
  · cases hK
    exact moves_ok0 (t := 0) (k := 14) (by decide) (by decide) (fun k K hK hk => hlow k K (Nat.lt_of_lt_of_le hk (by decide)) hK)
  · cases hK
    exact moves_ok0 (t := 0) (k := 15) (by decide) (by decide) (fun k K hK hk => hlow k K (Nat.lt_of_lt_of_le hk (by decide)) hK)
  · cases hK
    exact moves_ok0 (t := 1) (k := 0) (by decide) (by decide) (fun k K hK hk => hlow k K (Nat.lt_of_lt_of_le hk (by decide)) hK)
  · cases hK
    exact moves_ok0 (t := 1) (k := 1) (by decide) (by decide) (fun k K hK hk => hlow k K (Nat.lt_of_lt_of_le hk (by decide)) hK)
  · cases hK
    exact moves_ok0 (t := 1) (k := 2) (by decide) (by decide) (fun k K hK hk => hlow k K (Nat.lt_of_lt_of_le hk (by decide)) hK)
  · cases hK
    exact moves_ok0 (t := 1) (k := 3) (by decide) (by decide) (fun k K hK hk => hlow k K (Nat.lt_of_lt_of_le hk (by decide)) hK)
  · cases hK
    exact moves_ok0 (t := 1) (k := 4) (by decide) (by decide) (fun k K hK hk => hlow k K (Nat.lt_of_lt_of_le hk (by decide)) hK)
  · cases hK
    exact moves_ok0 (t := 1) (k := 5) (by decide) (by decide) (fun k K hK hk => hlow k K (Nat.lt_of_lt_of_le hk (by decide)) hK)
  · cases hK
    exact moves_ok0 (t := 1) (k := 6) (by decide) (by decide) (fun k K hK hk => hlow k K (Nat.lt_of_lt_of_le hk (by decide)) hK)
  · cases hK
    exact moves_ok0 (t := 1) (k := 7) (by decide) (by decide) (fun k K hK hk => hlow k K (Nat.lt_of_lt_of_le hk (by decide)) hK)
  · cases hK
    exact moves_ok0 (t := 1) (k := 8) (by decide) (by decide) (fun k K hK hk => hlow k K (Nat.lt_of_lt_of_le hk (by decide)) hK)
  · cases hK
    exact moves_ok0 (t := 1) (k := 9) (by decide) (by decide) (fun k K hK hk => hlow k K (Nat.lt_of_lt_of_le hk (by decide)) hK)
  · cases hK
    exact moves_ok0 (t := 1) (k := 10) (by decide) (by decide) (fun k K hK hk => hlow k K (Nat.lt_of_lt_of_le hk (by decide)) hK)
  · cases hK
    exact moves_ok0 (t := 1) (k := 11) (by decide) (by decide) (fun k K hK hk => hlow k K (Nat.lt_of_lt_of_le hk (by decide)) hK)
  · cases hK
    exact moves_ok0 (t := 1) (k := 12) (by decide) (by decide) (fun k K hK hk => hlow k K (Nat.lt_of_lt_of_le hk (by decide)) hK)
  · cases hK
    exact moves_ok0 (t := 1) (k := 13) (by decide) (by decide) (fun k K hK hk => hlow k K (Nat.lt_of_lt_of_le hk (by decide)) hK)
  · cases hK
    exact moves_ok0 (t := 1) (k := 14) (by decide) (by decide) (fun k K hK hk => hlow k K (Nat.lt_of_lt_of_le hk (by decide)) hK)
  · cases hK
    exact moves_ok0 (t := 1) (k := 15) (by decide) (by decide) (fun k K hK hk => hlow k K (Nat.lt_of_lt_of_le hk (by decide)) hK)
end HD
