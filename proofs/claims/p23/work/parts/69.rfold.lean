theorem bv_fold (X : BitVec 64) : ((((X >>> 1) ^^^ (-(X &&& 1#64))) <<< 1) ^^^ (BitVec.sshiftRight ((X >>> 1) ^^^ (-(X &&& 1#64))) 63)) = X := by
  have h1 : X &&& 1#64 = 0#64 ∨ X &&& 1#64 = 1#64 := by
    have e : (X &&& 1#64).toNat = X.toNat % 2 := by
      rw [BitVec.toNat_and]
      exact Nat.and_two_pow_sub_one_eq_mod X.toNat 1
    rcases Nat.mod_two_eq_zero_or_one X.toNat with h | h
    · exact Or.inl (BitVec.eq_of_toNat_eq (by rw [e, h]; rfl))
    · exact Or.inr (BitVec.eq_of_toNat_eq (by rw [e, h]; rfl))
  have hb : X.getLsbD 0 = (X &&& 1#64).getLsbD 0 := by simp
  rcases h1 with h | h
  · rw [h] at hb
    rw [h]
    have hb : X.getLsbD 0 = false := by rw [hb]; rfl
    have e0 : (X >>> 1) ^^^ (-(0#64)) = X >>> 1 := by simp
    rw [e0]
    apply BitVec.eq_of_getLsbD_eq
    intro i hi
    rw [BitVec.getLsbD_xor, BitVec.getLsbD_shiftLeft, BitVec.getLsbD_sshiftRight, BitVec.getLsbD_ushiftRight, BitVec.getLsbD_ushiftRight]
    have hm : (X >>> 1).msb = false := by rw [BitVec.msb_eq_getLsbD_last, BitVec.getLsbD_ushiftRight]; exact BitVec.getLsbD_of_ge _ _ (by omega)
    have h64 : ∀ j, 64 ≤ j → X.getLsbD j = false := fun j hj => BitVec.getLsbD_of_ge _ _ hj
    by_cases c : i = 0
    · subst c
      have hb' : X[0] = false := by simpa using hb
      simp [hb', hm, h64]
    · have e1 : 1 + (i - 1) = i := by omega
      have e2 : ¬ (63 + i < 64) := by omega
      simp [hm, h64, e1, e2, c, hi, show ¬ 64 ≤ i by omega, show ¬ i < 1 by omega]
  · rw [h] at hb
    rw [h]
    have hb : X.getLsbD 0 = true := by rw [hb]; rfl
    have e0 : (X >>> 1) ^^^ (-(1#64)) = ~~~ (X >>> 1) := by
      rw [show -(1#64) = BitVec.allOnes 64 from rfl]
      exact BitVec.xor_allOnes
    rw [e0]
    apply BitVec.eq_of_getLsbD_eq
    intro i hi
    have h64 : ∀ j, 64 ≤ j → X.getLsbD j = false := fun j hj => BitVec.getLsbD_of_ge _ _ hj
    have hm : (~~~ (X >>> 1)).msb = true := by
      rw [BitVec.msb_eq_getLsbD_last, BitVec.getLsbD_not, BitVec.getLsbD_ushiftRight, h64 _ (by omega)]
      rfl
    rw [BitVec.getLsbD_xor, BitVec.getLsbD_shiftLeft, BitVec.getLsbD_sshiftRight, BitVec.getLsbD_not, BitVec.getLsbD_not, BitVec.getLsbD_ushiftRight, BitVec.getLsbD_ushiftRight, hm]
    by_cases c : i = 0
    · subst c
      have hb' : X[0] = true := by simpa using hb
      simp [hb', h64]
    · have e1 : 1 + (i - 1) = i := by omega
      have e2 : ¬ (63 + i < 64) := by omega
      have e3 : i - 1 < 64 := by omega
      simp [h64, e1, e2, e3, c, hi, show ¬ 64 ≤ i by omega, show ¬ i < 1 by omega]
/-- folded again -/
def fold (p : Int64) : Int64 := (p <<< ((1 : Int32).toInt64 &&& 63)) ^^^ (p >>> ((63 : Int32).toInt64 &&& 63))
theorem fold_punf (v : Int64) : fold (punf v) = v := by
  apply Int64.toBitVec_inj.mp
  exact bv_fold v.toBitVec
theorem plg_odd (v : Int64) : plg v ↔ uN v % 2 = 1 := by
  unfold plg
  have e : uN (v &&& 1) = uN v % 2 := by
    show (v.toUInt64 &&& (1 : Int64).toUInt64).toNat = v.toUInt64.toNat % 2
    rw [UInt64.toNat_and]
    exact Nat.and_two_pow_sub_one_eq_mod v.toUInt64.toNat 1
  rw [← e]
  constructor
  · intro h; rw [h]; rfl
  · intro h
    have h2 := uN_toInt (v &&& 1)
    rw [h] at h2
    rw [j_eq, h2]
    rfl
theorem vacc_1 {f : Nat → Int32} {p : Nat} (h0 : 0 ≤ (f p).toInt) (h1 : (f p).toInt < 128) : (uN (vacc f p 1) : Int) = (f p).toInt ∧ (vacc f p 1).toInt = (f p).toInt := by
  have e : vacc f p 1 = (f p).toInt64 &&& 127 := by
    show (0 : Int64) ||| (((f p).toInt64 &&& 127) <<< ((7 * Int32.ofNat 0).toInt64 &&& 63)) = _
    have e2 : ((f p).toInt64 &&& 127) <<< ((7 * Int32.ofNat 0).toInt64 &&& 63) = (f p).toInt64 &&& 127 := by
      rw [show ((7 * Int32.ofNat 0).toInt64 &&& 63) = 0 by decide]
      simp
    rw [e2]
    simp
  have h2 : (uN (vacc f p 1) : Int) = (f p).toInt := by
    rw [e, and127]
    have := uN_of32 h0
    omega
  refine ⟨h2, ?_⟩
  rw [uN_toInt, if_pos (by omega)]
  exact h2
/-- k bytes are worth less than 2 to the 7 k -/
theorem vacc_lt (f : Nat → Int32) (p : Nat) : ∀ k, k ≤ 9 → uN (vacc f p k) < 2 ^ (7 * k) := by
  intro k
  induction k with
  | zero => intro _; exact Nat.lt_of_le_of_lt (Nat.le_of_eq (show uN (vacc f p 0) = 0 from rfl)) (by decide)
  | succ k ih =>
    intro hk
    have h1 := ih (by omega)
    show uN (vacc f p k ||| (((f (p + k)).toInt64 &&& 127) <<< ((7 * Int32.ofNat k).toInt64 &&& 63))) < _
    have e : uN (vacc f p k ||| (((f (p + k)).toInt64 &&& 127) <<< ((7 * Int32.ofNat k).toInt64 &&& 63))) = uN (vacc f p k) ||| uN (((f (p + k)).toInt64 &&& 127) <<< ((7 * Int32.ofNat k).toInt64 &&& 63)) := by
      show ((vacc f p k).toUInt64 ||| _).toNat = _
      rw [UInt64.toNat_or]
      rfl
    rw [e]
    refine Nat.or_lt_two_pow (Nat.lt_of_lt_of_le h1 (Nat.pow_le_pow_right (by decide) (by omega))) ?_
    have hs : uN (((f (p + k)).toInt64 &&& 127) <<< ((7 * Int32.ofNat k).toInt64 &&& 63)) = (uN ((f (p + k)).toInt64 &&& 127) * 2 ^ (7 * k)) % 2 ^ 64 := by
      rcases (show k = 0 ∨ k = 1 ∨ k = 2 ∨ k = 3 ∨ k = 4 ∨ k = 5 ∨ k = 6 ∨ k = 7 ∨ k = 8 by omega) with rfl | rfl | rfl | rfl | rfl | rfl | rfl | rfl | rfl
      · show BitVec.toNat (((f (p + 0)).toInt64 &&& 127).toBitVec <<< 0) = _
        rw [BitVec.toNat_shiftLeft, Nat.shiftLeft_eq]
        rfl
      · show BitVec.toNat (((f (p + 1)).toInt64 &&& 127).toBitVec <<< 7) = _
        rw [BitVec.toNat_shiftLeft, Nat.shiftLeft_eq]
        rfl
      · show BitVec.toNat (((f (p + 2)).toInt64 &&& 127).toBitVec <<< 14) = _
        rw [BitVec.toNat_shiftLeft, Nat.shiftLeft_eq]
        rfl
      · show BitVec.toNat (((f (p + 3)).toInt64 &&& 127).toBitVec <<< 21) = _
        rw [BitVec.toNat_shiftLeft, Nat.shiftLeft_eq]
        rfl
      · show BitVec.toNat (((f (p + 4)).toInt64 &&& 127).toBitVec <<< 28) = _
        rw [BitVec.toNat_shiftLeft, Nat.shiftLeft_eq]
        rfl
      · show BitVec.toNat (((f (p + 5)).toInt64 &&& 127).toBitVec <<< 35) = _
        rw [BitVec.toNat_shiftLeft, Nat.shiftLeft_eq]
        rfl
      · show BitVec.toNat (((f (p + 6)).toInt64 &&& 127).toBitVec <<< 42) = _
        rw [BitVec.toNat_shiftLeft, Nat.shiftLeft_eq]
        rfl
      · show BitVec.toNat (((f (p + 7)).toInt64 &&& 127).toBitVec <<< 49) = _
        rw [BitVec.toNat_shiftLeft, Nat.shiftLeft_eq]
        rfl
      · show BitVec.toNat (((f (p + 8)).toInt64 &&& 127).toBitVec <<< 56) = _
        rw [BitVec.toNat_shiftLeft, Nat.shiftLeft_eq]
        rfl
    rw [hs, and127]
    refine Nat.lt_of_le_of_lt (Nat.mod_le _ _) ?_
    rw [show 7 * (k + 1) = 7 + 7 * k by omega, Nat.pow_add]
    exact Nat.mul_lt_mul_of_pos_right (Nat.mod_lt _ (by decide)) (Nat.two_pow_pos _)
