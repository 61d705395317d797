/-! all contracts together -/
theorem ck_all_of {P : List aR} {N : Nat} (hN : KTx.length ≤ N) (hc : ∀ k, k < N → ckOne P k = true) {g : jG} {EI : aB → jH → Prop} {l : Launch} (hEI : eiOK TTs g EI P)
    (hh : ∀ (k : Nat) (K : aK), hdL.contains k = true → KTx[k]? = some K → (∀ (k' : Nat) (K' : aK), k' < k → KTx[k']? = some K' → kOK TTs g EI l K') → kOK TTs g EI l K) :
    ∀ (k : Nat) (K : aK), KTx[k]? = some K → kOK TTs g EI l K := by
  intro k
  induction k using Nat.strongRecOn with
  | ind k ih =>
    intro K hK
    have hk : k < N := Nat.lt_of_lt_of_le (List.getElem?_eq_some_iff.mp hK).1 hN
    have h1 := hc k hk
    rw [ckOne, Bool.or_eq_true] at h1
    rcases h1 with h1 | h1
    · exact hh k K h1 hK (fun k' K' hk' hK' => ih k' hk' K' hK')
    · rw [hK] at h1
      split at h1
      · rename_i q K2 hq hK2
        cases hK2
        rw [Bool.and_eq_true] at h1
        exact kchk_ok TTs_cl TTs_sg hEI (fun k' K' hK' hk' => ih k' hk' K' hK') hK h1.1 h1.2
      · cases h1
