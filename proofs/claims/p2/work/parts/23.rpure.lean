theorem ixR_in {r k : Nat} (hr : r < 4) (hk : k < 120) : vp_in (120 * nI r + nI k) 480 := by
  show vp_in (nI 120 * nI r + nI k) 480
  rw [pk_mul, nI_add]
  exact vp_in_nI (by omega) (by decide)
theorem ixR_cl {r k : Nat} (hr : r < 4) (hk : k < 120) : (120 * nI r + nI k).toNatClampNeg = 120 * r + k := by
  show (nI 120 * nI r + nI k).toNatClampNeg = 120 * r + k
  rw [pk_mul, nI_add]
  exact nI_clamp (by omega)
/-- bytes x .. y - 1 are a text's -/
def txt (fo : Nat → Int32) (x y : Nat) : Prop := y - x ≤ 12 ∧ ∀ i : Nat, x ≤ i → i < y → isT (fo i)
