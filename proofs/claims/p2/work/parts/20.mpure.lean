/-- MAKE p was told -/
def isM (tl : Nat → Int32) (p : Int32) : Prop := (¬ p < 0 ∧ ¬ 8 ≤ p) ∧ ¬ tl p.toNatClampNeg = 0
/-- MAKE M has a FIELD p that is not gone -/
def hasF (it kd : Nat → Int32) (M : Nat) (p : Int32) : Prop := (¬ p ≤ 0 ∧ ¬ 31 ≤ p) ∧ ¬ it (31 * M + p.toNatClampNeg) = 0 ∧ ¬ kd (31 * M + p.toNatClampNeg) = 0
theorem pos_n {p : Int32} (h0 : ¬ p ≤ 0) (h1 : ¬ 31 ≤ p) : ∃ N : Nat, 0 < N ∧ N < 31 ∧ p = nI N := by
  have hn : ¬ p < 0 := fun c => h0 (Int32.le_of_lt c)
  obtain ⟨N, hN, rfl⟩ := nI_of hn
  refine ⟨N, ?_, nI_ltN (b := 31) hN (by decide) h1, rfl⟩
  rcases Nat.eq_zero_or_pos N with c | c
  · subst c
    exact absurd (by decide) h0
  · exact c
theorem ix_in {M : Nat} {p : Int32} (hM : M < 8) (h0 : ¬ p ≤ 0) (h1 : ¬ 31 ≤ p) : vp_in (31 * nI M + p) 248 := by
  obtain ⟨N, a, b, rfl⟩ := pos_n h0 h1
  show vp_in (nI 31 * nI M + nI N) 248
  rw [pk_mul, nI_add]
  exact vp_in_nI (by omega) (by decide)
theorem ix_cl {M : Nat} {p : Int32} (hM : M < 8) (h0 : ¬ p ≤ 0) (h1 : ¬ 31 ≤ p) : (31 * nI M + p).toNatClampNeg = 31 * M + p.toNatClampNeg := by
  obtain ⟨N, a, b, rfl⟩ := pos_n h0 h1
  rw [nI_clamp (n := N) (by omega)]
  show (nI 31 * nI M + nI N).toNatClampNeg = 31 * M + N
  rw [pk_mul, nI_add]
  exact nI_clamp (by omega)
theorem ixN_in {M N : Nat} (hM : M < 8) (hN : N < 31) : vp_in (31 * nI M + nI N) 248 := by
  show vp_in (nI 31 * nI M + nI N) 248
  rw [pk_mul, nI_add]
  exact vp_in_nI (by omega) (by decide)
theorem ixN_cl {M N : Nat} (hM : M < 8) (hN : N < 31) : (31 * nI M + nI N).toNatClampNeg = 31 * M + N := by
  show (nI 31 * nI M + nI N).toNatClampNeg = 31 * M + N
  rw [pk_mul, nI_add]
  exact nI_clamp (by omega)
/-- numbers are one sort, texts and recs each their own -/
def srt (kd : Nat → Int32) (M N : Nat) : Int32 := if 5 ≤ kd (31 * M + N) then kd (31 * M + N) else 0
