/-- a long by its bits -/
def uN (v : Int64) : Nat := v.toUInt64.toNat
theorem uN_lt (v : Int64) : uN v < 18446744073709551616 := v.toUInt64.toNat_lt
theorem uN_toInt (v : Int64) : v.toInt = if uN v < 9223372036854775808 then (uN v : Int) else (uN v : Int) - 18446744073709551616 := by
  rw [← Int64.toInt_toBitVec, BitVec.toInt_eq_toNat_cond]
  show (if 2 * uN v < 2 ^ 64 then ((uN v : Nat) : Int) else ((uN v : Nat) : Int) - ((2 ^ 64 : Nat) : Int)) = _
  by_cases h : uN v < 9223372036854775808
  · rw [if_pos h, if_pos (by omega)]
  · rw [if_neg h, if_neg (by omega)]
    rfl
theorem uN_of32 {a : Int32} (h : 0 ≤ a.toInt) : (uN a.toInt64 : Int) = a.toInt := by
  have h1 := uN_toInt a.toInt64
  rw [j_of] at h1
  have h2 := t_rng a
  have h3 := uN_lt a.toInt64
  by_cases c : uN a.toInt64 < 9223372036854775808
  · rw [if_pos c] at h1; omega
  · rw [if_neg c] at h1; omega
theorem uN_shr (v : Int64) : uN ((v.toUInt64 >>> ((7 : Int32).toInt64.toUInt64 &&& Int64.toUInt64 63)).toInt64) = uN v / 128 := by
  have e : ((7 : Int32).toInt64.toUInt64 &&& Int64.toUInt64 63) = 7 := by decide
  rw [e]
  show (v.toUInt64 >>> 7).toNat = v.toUInt64.toNat / 128
  rw [UInt64.toNat_shiftRight]
  show v.toUInt64.toNat >>> 7 = _
  rw [Nat.shiftRight_eq_div_pow]
theorem and127 (v : Int64) : uN (v &&& 127) = uN v % 128 := by
  show (v.toUInt64 &&& (127 : Int64).toUInt64).toNat = v.toUInt64.toNat % 128
  rw [UInt64.toNat_and]
  show v.toUInt64.toNat &&& 127 = _
  exact Nat.and_two_pow_sub_one_eq_mod v.toUInt64.toNat 7
theorem to32_small {v : Int64} (h : uN v < 128) : (v.toInt32).toInt = uN v := by
  have h1 := uN_toInt v
  rw [if_pos (by omega)] at h1
  rw [Int64.toInt_toInt32, h1]
  exact t_bm (by omega) (by omega)
theorem or128 {y : Int32} (h0 : 0 ≤ y.toInt) (h1 : y.toInt < 128) : 128 ≤ (y ||| 128).toInt ∧ (y ||| 128).toInt < 256 := by
  have hy : y.toBitVec.toNat < 128 := by
    have e := BitVec.toInt_eq_toNat_cond y.toBitVec
    have e2 : y.toInt = y.toBitVec.toInt := rfl
    have := y.toBitVec.isLt
    rw [← e2] at e
    by_cases c : 2 * y.toBitVec.toNat < 2 ^ 32
    · rw [if_pos c] at e; omega
    · rw [if_neg c] at e; omega
  have hn : (y ||| 128).toBitVec.toNat = y.toBitVec.toNat ||| 128 := by
    show (y.toBitVec ||| (128 : Int32).toBitVec).toNat = _
    rw [BitVec.toNat_or]
    rfl
  have l1 : 128 ≤ y.toBitVec.toNat ||| 128 := Nat.right_le_or
  have l2 : y.toBitVec.toNat ||| 128 < 2 ^ 8 := Nat.or_lt_two_pow (by omega) (by decide)
  have e : (y ||| 128).toInt = ((y ||| 128).toBitVec.toNat : Int) := by
    show (y ||| 128).toBitVec.toInt = _
    rw [BitVec.toInt_eq_toNat_cond, if_pos (by rw [hn]; omega)]
  rw [e, hn]
  omega
/-- level L has n bytes laid -/
def LyN (st : RS) (L n : Nat) : Prop := gF st 53 L = Int32.ofNat n
theorem LyN.i {st : RS} {L n : Nat} (h : LyN st L n) (hn : n < 2147483648) : (gF st 53 L).toInt = n := by
  unfold LyN at h
  rw [h, t_nI hn]
/-- k bytes come behind the n of level L -/
def LaP (st : RS) (L n k : Nat) (t : RS) : Prop := Fr [] [52, 53] st t ∧ LyN t L (n + k) ∧ (∀ d, d ≠ L → gF t 53 d = gF st 53 d) ∧ ∀ i, i < 160 * L + n ∨ 160 * L + n + k ≤ i → gF t 52 i = gF st 52 i
theorem LaP.rf {st : RS} {L n : Nat} (h : LyN st L n) : LaP st L n 0 st := ⟨Fr.rf, h, fun _ _ => rfl, fun _ _ => rfl⟩
theorem LaP.tr {st t u : RS} {L n k j : Nat} (h1 : LaP st L n k t) (h2 : LaP t L (n + k) j u) : LaP st L n (k + j) u := by
  obtain ⟨a1, a2, a3, a4⟩ := h1
  obtain ⟨b1, b2, b3, b4⟩ := h2
  exact ⟨a1.tr b1, by rw [← Nat.add_assoc]; exact b2, fun d hd => (b3 d hd).trans (a3 d hd), fun i hi => (b4 i (by omega)).trans (a4 i (by omega))⟩
theorem r_lays {l b : Int32} {st : RS} {n : Nat} (h1 : 0 ≤ l.toInt) (h2 : l.toInt < 9) (hn : LyN st l.toNatClampNeg n) (h3 : 160 * l.toNatClampNeg + n < 1440) : Ok (x9_lays l b st) (fun t => LaP st l.toNatClampNeg n 1 t ∧ gF t 52 (160 * l.toNatClampNeg + n) = b) := by
  have e1 := hn.i (by omega)
  have em : (160 * l).toInt = 160 * l.toInt := by
    rw [t_mul (by simp; omega) (by simp; omega)]
    rfl
  have nl : (l.toNatClampNeg : Int) = l.toInt := by rw [t_nat]; omega
  have ea : (160 * l + gF st 53 l.toNatClampNeg).toInt = 160 * l.toInt + n := by rw [t_add (by omega) (by omega), em, e1]
  have en : (160 * l + gF st 53 l.toNatClampNeg).toNatClampNeg = 160 * l.toNatClampNeg + n := by rw [t_nat, ea]; omega
  unfold x9_lays
  simp only [Ok_gd, Ok_nam, Ok_some, t_in, ea, en]
  refine ⟨by omega, by omega, by omega, by omega, ⟨(Fr.rf.sF (by decide)).sF (by decide), ?_, fun d hd => ?_, fun i hi => ?_⟩, ?_⟩
  · show upd (gF st 53) l.toNatClampNeg (gF st 53 l.toNatClampNeg + 1) l.toNatClampNeg = _
    rw [upd_eq rfl]
    unfold LyN at hn
    rw [hn, t_eq, t_add (by rw [t_nI (by omega)]; show -2147483648 ≤ (n : Int) + 1; omega) (by rw [t_nI (by omega)]; show (n : Int) + 1 < 2147483648; omega), t_nI (by omega), t_nI (by omega)]
    rfl
  · show upd (gF st 53) l.toNatClampNeg (gF st 53 l.toNatClampNeg + 1) d = _
    rw [upd_ne hd]
  · show upd (gF st 52) (160 * l.toNatClampNeg + n) b i = _
    rw [upd_ne (by omega)]
  · show upd (gF st 52) (160 * l.toNatClampNeg + n) b (160 * l.toNatClampNeg + n) = _
    rw [upd_eq rfl]
/-- a varint comes behind the n bytes of level L -/
def LvP (st : RS) (L n : Nat) (v : Int64) (t : RS) : Prop := ∃ k, LaP st L n k t ∧ Vd (gF t 52) (160 * L + n) k ∧ (∀ j, 1 ≤ j → uN v < 2 ^ (7 * j) → k ≤ j) ∧ (k = 1 → (gF t 52 (160 * L + n)).toInt = uN v)
theorem r_laysV3 (l : Int32) (st : RS) (L n : Nat) (v : Int64) (h1 : 0 ≤ l.toInt) (h2 : l.toInt < 9) (hL : l.toNatClampNeg = L) (h3 : 160 * L + n + 10 ≤ 1440) : ∀ (z i : Nat) (x : Int64) (t : RS), i ≤ 9 → 10 - i < z → LaP st L n i t → (∀ j, j < i → 128 ≤ (gF t 52 (160 * L + n + j)).toInt) → uN x = uN v / 2 ^ (7 * i) → (i = 0 ∨ 2 ^ (7 * i) ≤ uN v) → Ok (x9_laysVarint_3 z l x t) (LvP st L n v) := by
  intro z
  induction z with
  | zero => intro i x t a b; omega
  | succ z ih =>
    intro i x t hi hz hP hB hx hv
    subst hL
    rw [x9_laysVarint_3_s]
    unfold x9_laysVarint_19
    have hxi := uN_toInt x
    have go : 128 ≤ uN x → Ok (bnv (x9_lays l (((x &&& 127).toInt32) ||| 128) t) (fun st_1 => nam ((x.toUInt64 >>> ((7 : Int32).toInt64.toUInt64 &&& Int64.toUInt64 63)).toInt64) (fun v_4 => x9_laysVarint_3 z l v_4 st_1))) (LvP st l.toNatClampNeg n v) := by
      intro hge
      have hi9 : i < 9 := by
        rcases Nat.lt_or_ge i 9 with h | h
        · exact h
        · have : i = 9 := by omega
          subst this
          have h5 := uN_lt v
          have h6 : uN v / 2 ^ (7 * 9) < 2 := by
            rw [Nat.div_lt_iff_lt_mul (by decide)]
            have : (2 : Nat) * 2 ^ (7 * 9) = 18446744073709551616 := by decide
            omega
          omega
      refine Ok.callv (r_lays h1 h2 hP.2.1 (by omega)) (fun u hu => ?_)
      obtain ⟨hu1, hu2⟩ := hu
      rw [Ok_nam]
      have hb := or128 (y := (x &&& 127).toInt32) (by rw [to32_small (by rw [and127]; omega)]; omega) (by rw [to32_small (by rw [and127]; omega), and127]; omega)
      refine ih (i + 1) _ u (by omega) (by omega) (hP.tr hu1) (fun j hj => ?_) ?_ (Or.inr ?_)
      · rcases Nat.lt_or_ge j i with h | h
        · rw [hu1.2.2.2 _ (Or.inl (by omega))]
          exact hB j h
        · have hji : j = i := by omega
          subst hji
          rw [show 160 * l.toNatClampNeg + n + j = 160 * l.toNatClampNeg + (n + j) by omega, hu2]
          exact hb.1
      · rw [uN_shr, hx, Nat.div_div_eq_div_mul]
        congr 1
        rw [show (128 : Nat) = 2 ^ 7 from rfl, ← Nat.pow_add]
        congr 1
      · rw [hx] at hge
        have := (Nat.le_div_iff_mul_le (Nat.two_pow_pos (7 * i))).mp hge
        rw [show 7 * (i + 1) = 7 + 7 * i by omega, Nat.pow_add]
        exact this
    simp only [Ok_pif, lg_cmp_lt, lg_cmp_le, j_lt, j_le]
    rw [show (0 : Int64).toInt = 0 from rfl, show (127 : Int64).toInt = 127 from rfl]
    have hlt := uN_lt x
    refine ⟨fun c => go (by by_cases q : uN x < 9223372036854775808; rw [if_pos q] at hxi; omega; omega), fun c => ⟨fun d => ?_, fun d => go (by by_cases q : uN x < 9223372036854775808; rw [if_pos q] at hxi; omega; omega)⟩⟩
    have hs : uN x < 128 := by
      by_cases q : uN x < 9223372036854775808
      · rw [if_pos q] at hxi; omega
      · rw [if_neg q] at hxi; omega
    refine Ok.callv (r_lays h1 h2 hP.2.1 (by omega)) (fun u hu => ?_)
    obtain ⟨hu1, hu2⟩ := hu
    rw [Ok_some]
    have e32 := to32_small hs
    rw [show 160 * l.toNatClampNeg + (n + i) = 160 * l.toNatClampNeg + n + i by omega] at hu2
    have hold : ∀ j, j < i → gF u 52 (160 * l.toNatClampNeg + n + j) = gF t 52 (160 * l.toNatClampNeg + n + j) := fun j hj => hu1.2.2.2 _ (Or.inl (by omega))
    refine ⟨i + 1, hP.tr hu1, ⟨by omega, by omega, fun j hj => by rw [hold j (by omega)]; exact hB j (by omega), by rw [Nat.add_sub_cancel, hu2, e32]; omega, fun hk => ?_⟩, fun j hj hlt2 => ?_, fun hk => ?_⟩
    · have : i = 9 := by omega
      subst this
      rw [hu2, e32, hx]
      have h5 := uN_lt v
      have h6 : uN v / 2 ^ (7 * 9) < 2 := by
        rw [Nat.div_lt_iff_lt_mul (by decide)]
        have : (2 : Nat) * 2 ^ (7 * 9) = 18446744073709551616 := by decide
        omega
      omega
    · rcases hv with hv | hv
      · omega
      · rcases Nat.lt_or_ge i j with h | h
        · omega
        · have : 2 ^ (7 * j) ≤ 2 ^ (7 * i) := Nat.pow_le_pow_right (by decide) (by omega)
          omega
    · have : i = 0 := by omega
      subst this
      rw [Nat.add_zero] at hu2
      rw [hu2, e32, hx]
      simp
theorem r_laysVarint {l : Int32} {st : RS} {n : Nat} {v : Int64} (h1 : 0 ≤ l.toInt) (h2 : l.toInt < 9) (hn : LyN st l.toNatClampNeg n) (h3 : 160 * l.toNatClampNeg + n + 10 ≤ 1440) : Ok (x9_laysVarint l v st) (LvP st l.toNatClampNeg n v) := r_laysV3 l st _ n v h1 h2 rfl h3 fuel 0 v st (by omega) (by decide) (LaP.rf hn) (fun j hj => absurd hj (by omega)) (by simp) (Or.inl rfl)
