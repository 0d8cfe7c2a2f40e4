theorem sw_ne {x : Int32} (k : Nat) (hk : k < 2 ^ 31) (h : ¬ x = nI k) : x.toInt ≠ (k : Int) := fun q => h (Int32.toInt_inj.mp (q.trans (nI_toInt hk).symm))
theorem sw_out5 {x : Int32} (h0 : ¬ x = 0) (h1 : ¬ x = 1) (h2 : ¬ x = 2) (h3 : ¬ x = 3) (h4 : ¬ x = 4) : x.toInt < 0 ∨ 4 < x.toInt := by
  have a0 := sw_ne 0 (by decide) h0
  have a1 := sw_ne 1 (by decide) h1
  have a2 := sw_ne 2 (by decide) h2
  have a3 := sw_ne 3 (by decide) h3
  have a4 := sw_ne 4 (by decide) h4
  omega
theorem sw_out3 {x : Int32} (h0 : ¬ x = 0) (h1 : ¬ x = 1) (h2 : ¬ x = 2) : x.toInt < 0 ∨ 2 < x.toInt := by
  have a0 := sw_ne 0 (by decide) h0
  have a1 := sw_ne 1 (by decide) h1
  have a2 := sw_ne 2 (by decide) h2
  omega
