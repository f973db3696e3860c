theorem ixL_in {d k : Nat} (h : 160 * d + k < 1440) : vp_in (160 * nI d + nI k) 1440 := by
  show vp_in (nI 160 * nI d + nI k) 1440
  rw [pk_mul, nI_add]
  exact vp_in_nI h (by decide)
theorem ixL_cl {d k : Nat} (h : 160 * d + k < 1440) : (160 * nI d + nI k).toNatClampNeg = 160 * d + k := by
  show (nI 160 * nI d + nI k).toNatClampNeg = 160 * d + k
  rw [pk_mul, nI_add]
  exact nI_clamp (by omega)
