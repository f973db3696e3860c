theorem r_235b {pm fl i : Int32} {l4 : Int64} {z : Nat} {st : RS} (h13 : gI st 13 ≠ 0) : Ok (x9_field_235 (z + 1) pm fl l4 i st) (fun t => t = st) := by
  rw [x9_field_235_s]
  simp only [Ok_pif]
  exact ⟨fun _ => r_297b h13, fun _ => ⟨fun q => absurd q h13, fun _ => r_297b h13⟩⟩
theorem r_235 {m : Nat} {pm fl : Int32} {l4 : Int64} {st : RS} {P : RS → Prop} (hm : pm.toInt = m) (hm8 : m < 8) (h13 : gI st 13 = 0) (hgood : (∀ j, 1 ≤ j → j < 31 → gF st 8 (31 * m + j) ≠ 0 → gL st 5 (31 * m + j) ≠ l4) → Ok (x9_field_297 pm fl l4 st) P) (hbad : (∃ j, 1 ≤ j ∧ j < 31 ∧ gF st 8 (31 * m + j) ≠ 0 ∧ gL st 5 (31 * m + j) = l4) → ∀ u, Fr [13, 14] [] st u → gI u 13 ≠ 0 → P u) : ∀ (z i : Nat) (x : Int32), x.toInt = i → 1 ≤ i → i ≤ 31 → 33 - i < z → (∀ j, 1 ≤ j → j < i → gF st 8 (31 * m + j) ≠ 0 → gL st 5 (31 * m + j) ≠ l4) → Ok (x9_field_235 z pm fl l4 x st) P := by
  intro z
  induction z with
  | zero => intro i x a b c d; omega
  | succ z ih =>
    intro i x hx h1 hi hz hB
    have em : (31 * pm).toInt = 31 * pm.toInt := by
      rw [t_mul (by show -2147483648 ≤ 31 * pm.toInt; omega) (by show 31 * pm.toInt < 2147483648; omega)]
      rfl
    have ea : (31 * pm + x).toInt = (31 * m + i : Nat) := by rw [t_add (by omega) (by omega), em, hm, hx]; omega
    have ean : (31 * pm + x).toNatClampNeg = 31 * m + i := by rw [t_nat, ea]; omega
    have e := inc (x := x) (by omega) (by omega)
    rw [x9_field_235_s]
    generalize x + 1 = x' at e ⊢
    simp only [Ok_pif, Ok_gd, Ok_nam, ean, lg_cmp_eq]
    rw [t_le, hx, show (31 : Int32).toInt = 31 from rfl, t_in, ea]
    refine ⟨fun c => hgood (fun j j1 j2 => hB j j1 (by omega)), fun c => ⟨fun _ => ⟨by omega, fun q => ih (i + 1) x' (by omega) (by omega) (by omega) (by omega) (fun j j1 j2 => ?_), fun q => ⟨by omega, fun q2 => Ok.callv (r_fail (by decide)) (fun u hu => ?_), fun q2 => ih (i + 1) x' (by omega) (by omega) (by omega) (by omega) (fun j j1 j2 => ?_)⟩⟩, fun q => absurd h13 q⟩⟩
    · rcases Nat.lt_or_ge j i with w | w
      · exact hB j j1 w
      · rw [show j = i by omega]; exact fun a => absurd q a
    · cases z with
      | zero => omega
      | succ z => exact (r_235b hu.2).mono (fun a ha => by rw [ha]; exact hbad ⟨i, h1, by omega, q, q2⟩ u hu.1 hu.2)
    · rcases Nat.lt_or_ge j i with w | w
      · exact hB j j1 w
      · rw [show j = i by omega]; exact fun _ => q2
theorem r_98b {pm fl : Int32} {l4 : Int64} {st : RS} (h13 : gI st 13 ≠ 0) : Ok (x9_field_98 pm fl l4 st) (fun t => t = st) := by
  unfold x9_field_98
  simp only [Ok_pif, Ok_some]
  exact ⟨fun q => absurd q h13, fun _ => trivial⟩
/-- names alike: packed alike -/
theorem seenW_pk {f : Nat → Int32} {n m w : Nat} {T : Nat → Prop} {L : List FdT} {st : RS} (hL : RfI f m T L st) (hw : rn ltr f n w - w ≤ 8) (h1 : 1 ≤ rn ltr f n w - w) : (∃ j, 1 ≤ j ∧ j < 31 ∧ gF st 8 (31 * m + j) ≠ 0 ∧ gL st 5 (31 * m + j) = pkv f w (rn ltr f n w - w)) ↔ seenW f L w (rn ltr f n w) := by
  constructor
  · rintro ⟨j, j1, j2, j3, j4⟩
    obtain ⟨x, hx, e⟩ := (hL.1 j j2).mp j3
    obtain ⟨b1, b2, b3, b4, b5, b6, b7, b8, b9⟩ := hL.2.1 x hx
    rw [e] at b8
    rw [b8, j_eq, pkv_N _ b6 b7, pkv_N _ hw (fun j hj => rn_ltr hj)] at j4
    obtain ⟨c1, c2⟩ := pkN_inj _ _ b7 (fun j hj => rn_ltr hj) j4
    exact ⟨x, hx, c1, fun i hi => c2 i (by omega)⟩
  · rintro ⟨x, hx, e1, e2⟩
    obtain ⟨b1, b2, b3, b4, b5, b6, b7, b8, b9⟩ := hL.2.1 x hx
    refine ⟨fNum x, b1.1, by omega, (hL.1 _ (by omega)).mpr ⟨x, hx, rfl⟩, ?_⟩
    rw [b8, e1]
    have go : ∀ k, k ≤ rn ltr f n w - w → pkv f (fNa x) k = pkv f w k := by
      intro k
      induction k with
      | zero => intro _; rfl
      | succ k ih =>
        intro hk
        show (((27 * pkv f (fNa x) k) + (f (fNa x + k)).toInt64) - 97) + 1 = (((27 * pkv f w k) + (f (w + k)).toInt64) - 97) + 1
        rw [ih (by omega), e2 k (by omega)]
    exact go _ (Nat.le_refl _)
theorem fr_85 {I : List Nat} {st t : RS} (h : Fr I [] st t) : gF t 8 = gF st 8 ∧ gL t 5 = gL st 5 := ⟨(h.2 8 (by simp)).1, (h.2 5 (by simp)).2⟩
