theorem lw_lt {j L : Nat} (hL : L ≤ 2048) (hj : j ≤ L + 4) (h : ¬ Int32.ofNat L - 4 < nI j) : j + 4 ≤ L := by
  refine Nat.not_lt.mp (fun q => h (Int32.lt_iff_toInt_lt.mpr ?_))
  rw [Int32.toInt_sub, nI_toInt (show j < 2 ^ 31 by omega), show Int32.ofNat L = nI L from rfl, nI_toInt (show L < 2 ^ 31 by omega), show (4 : Int32).toInt = 4 by decide]
  simp only [Int.bmod]
  split <;> omega
theorem lw_ix {j k L : Nat} (hL : L ≤ 2048) (hj : j + 4 ≤ L) (hk : k < 4) : vp_in (nI j + nI k) L := by
  rw [nI_add]
  exact vp_in_nI (by omega) (by omega)
