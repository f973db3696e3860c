theorem j_bm {n : Int} (h1 : -9223372036854775808 ≤ n) (h2 : n < 9223372036854775808) : n.bmod 18446744073709551616 = n := by
  rw [Int.bmod_def]
  omega
theorem j_add {a b : Int64} (h1 : -9223372036854775808 ≤ a.toInt + b.toInt) (h2 : a.toInt + b.toInt < 9223372036854775808) : (a + b).toInt = a.toInt + b.toInt := by
  rw [Int64.toInt_add]
  exact j_bm h1 h2
theorem j_sub {a b : Int64} (h1 : -9223372036854775808 ≤ a.toInt - b.toInt) (h2 : a.toInt - b.toInt < 9223372036854775808) : (a - b).toInt = a.toInt - b.toInt := by
  rw [Int64.toInt_sub]
  exact j_bm h1 h2
theorem j_mul {a b : Int64} (h1 : -9223372036854775808 ≤ a.toInt * b.toInt) (h2 : a.toInt * b.toInt < 9223372036854775808) : (a * b).toInt = a.toInt * b.toInt := by
  rw [Int64.toInt_mul]
  exact j_bm h1 h2
/-- letters packed, as a number -/
def pkN (f : Nat → Int32) (a : Nat) : Nat → Int
  | 0 => 0
  | k + 1 => 27 * pkN f a k + ((f (a + k)).toInt - 96)
theorem pkN_b {f : Nat → Int32} {a : Nat} : ∀ k, (∀ j, j < k → ltr (f (a + j))) → 0 ≤ pkN f a k ∧ pkN f a k < (27 : Int) ^ k ∧ (0 < k → 1 ≤ pkN f a k) := by
  intro k
  induction k with
  | zero => intro _; exact ⟨Int.le_refl _, by show (0 : Int) < 27 ^ 0; decide, fun h => absurd h (by omega)⟩
  | succ k ih =>
    intro h
    obtain ⟨h1, h2, -⟩ := ih (fun j hj => h j (by omega))
    have h3 := h k (by omega)
    unfold ltr at h3
    show 0 ≤ 27 * pkN f a k + ((f (a + k)).toInt - 96) ∧ 27 * pkN f a k + ((f (a + k)).toInt - 96) < (27 : Int) ^ (k + 1) ∧ (0 < k + 1 → 1 ≤ 27 * pkN f a k + ((f (a + k)).toInt - 96))
    rw [Int.pow_succ]
    generalize (27 : Int) ^ k = y at h2 ⊢
    omega
theorem p27 {k : Nat} (h : k ≤ 8) : (27 : Int) ^ k ≤ 282429536481 := by
  rcases (show k = 0 ∨ k = 1 ∨ k = 2 ∨ k = 3 ∨ k = 4 ∨ k = 5 ∨ k = 6 ∨ k = 7 ∨ k = 8 by omega) with rfl | rfl | rfl | rfl | rfl | rfl | rfl | rfl | rfl <;> decide
theorem pkv_N {f : Nat → Int32} {a : Nat} : ∀ k, k ≤ 8 → (∀ j, j < k → ltr (f (a + j))) → (pkv f a k).toInt = pkN f a k := by
  intro k
  induction k with
  | zero => intro _ _; rfl
  | succ k ih =>
    intro hk h
    have e := ih (by omega) (fun j hj => h j (by omega))
    have hb := pkN_b k (fun j hj => h j (by omega))
    have hp := p27 (show k ≤ 8 by omega)
    have h3 := h k (by omega)
    unfold ltr at h3
    have e1 : (27 * pkv f a k).toInt = 27 * pkN f a k := by
      rw [j_mul (by rw [e]; show -9223372036854775808 ≤ 27 * pkN f a k; omega) (by rw [e]; show 27 * pkN f a k < 9223372036854775808; omega), e]
      rfl
    have e2 : (27 * pkv f a k + (f (a + k)).toInt64).toInt = 27 * pkN f a k + (f (a + k)).toInt := by rw [j_add (by rw [e1, j_of]; omega) (by rw [e1, j_of]; omega), e1, j_of]
    have e3 : (27 * pkv f a k + (f (a + k)).toInt64 - 97).toInt = 27 * pkN f a k + (f (a + k)).toInt - 97 := by
      rw [j_sub (by rw [e2]; show -9223372036854775808 ≤ 27 * pkN f a k + (f (a + k)).toInt - 97; omega) (by rw [e2]; show 27 * pkN f a k + (f (a + k)).toInt - 97 < 9223372036854775808; omega), e2]
      rfl
    show (27 * pkv f a k + (f (a + k)).toInt64 - 97 + 1).toInt = 27 * pkN f a k + ((f (a + k)).toInt - 96)
    rw [j_add (by rw [e3]; show -9223372036854775808 ≤ 27 * pkN f a k + (f (a + k)).toInt - 97 + 1; omega) (by rw [e3]; show 27 * pkN f a k + (f (a + k)).toInt - 97 + 1 < 9223372036854775808; omega), e3]
    show 27 * pkN f a k + (f (a + k)).toInt - 97 + 1 = _
    omega
theorem pkN_inj {f g : Nat → Int32} {a b : Nat} : ∀ k j, (∀ i, i < k → ltr (f (a + i))) → (∀ i, i < j → ltr (g (b + i))) → pkN f a k = pkN g b j → k = j ∧ ∀ i, i < k → f (a + i) = g (b + i) := by
  intro k
  induction k with
  | zero =>
    intro j _ hg e
    cases j with
    | zero => exact ⟨rfl, fun i hi => absurd hi (by omega)⟩
    | succ j =>
      have h := (pkN_b (j + 1) hg).2.2 (by omega)
      have e : (0 : Int) = pkN g b (j + 1) := e
      omega
  | succ k ih =>
    intro j hf hg e
    cases j with
    | zero =>
      have h := (pkN_b (k + 1) hf).2.2 (by omega)
      have e : pkN f a (k + 1) = 0 := e
      omega
    | succ j =>
      have e : 27 * pkN f a k + ((f (a + k)).toInt - 96) = 27 * pkN g b j + ((g (b + j)).toInt - 96) := e
      have h1 := hf k (by omega)
      have h2 := hg j (by omega)
      unfold ltr at h1 h2
      obtain ⟨e1, e2⟩ := ih j (fun i hi => hf i (by omega)) (fun i hi => hg i (by omega)) (by omega)
      subst e1
      refine ⟨rfl, fun i hi => ?_⟩
      rcases Nat.lt_or_ge i k with q | q
      · exact e2 i q
      · rw [show i = k by omega, t_eq]; omega
/-- the letters from a to b are those of a list -/
def wEq (f : Nat → Int32) (a b : Nat) (l : List Int32) : Prop := b - a = l.length ∧ ∀ j, j < l.length → f (a + j) = l.getD j 0
theorem rn_ltr {f : Nat → Int32} {n a j : Nat} (hj : j < rn ltr f n a - a) : ltr (f (a + j)) := ((rn_run ltr f n a).2.1 (a + j) (by omega) (by omega)).2
theorem wd_is {f : Nat → Int32} {n a : Nat} {v : Int64} (l : List Int32) (h8 : l.length ≤ 8) (hl : ∀ j, j < l.length → ltr (l.getD j 0)) (hv : v.toInt = pkN (fun j => l.getD j 0) 0 l.length) : wdv f n a = v ↔ wEq f a (rn ltr f n a) l := by
  have hl' : ∀ j, j < l.length → ltr ((fun j => l.getD j 0) (0 + j)) := fun j hj => by rw [Nat.zero_add]; exact hl j hj
  have hb := pkN_b (f := fun j => l.getD j 0) (a := 0) l.length hl'
  unfold wdv
  by_cases c : rn ltr f n a - a ≤ 8
  · rw [pif_pos c, j_eq, pkv_N _ c (fun j hj => rn_ltr hj), hv]
    constructor
    · intro e
      obtain ⟨e1, e2⟩ := pkN_inj _ _ (fun j hj => rn_ltr hj) hl' e
      refine ⟨e1, fun j hj => ?_⟩
      have := e2 j (by omega)
      rw [Nat.zero_add] at this
      exact this
    · intro w
      rw [w.1]
      have go : ∀ k, k ≤ l.length → pkN f a k = pkN (fun j => l.getD j 0) 0 k := by
        intro k
        induction k with
        | zero => intro _; rfl
        | succ k ih =>
          intro hk
          show 27 * pkN f a k + ((f (a + k)).toInt - 96) = 27 * pkN _ 0 k + ((l.getD (0 + k) 0).toInt - 96)
          rw [ih (by omega), w.2 k (by omega), Nat.zero_add]
      exact go _ (Nat.le_refl _)
  · rw [pif_neg c]
    refine ⟨fun e => ?_, fun w => absurd w.1 (by omega)⟩
    rw [← e] at hv
    have : (-1 : Int64).toInt = -1 := rfl
    omega
/-- the words of the language: gone, flag, small, int, long, text, rec, in -/
theorem wd_gone {f : Nat → Int32} {n a : Nat} : wdv f n a = 149099 ↔ wEq f a (rn ltr f n a) [103, 111, 110, 101] := wd_is _ (by decide) (by unfold ltr; decide) (by decide)
theorem wd_flag {f : Nat → Int32} {n a : Nat} : wdv f n a = 126880 ↔ wEq f a (rn ltr f n a) [102, 108, 97, 103] := wd_is _ (by decide) (by unfold ltr; decide) (by decide)
theorem wd_small {f : Nat → Int32} {n a : Nat} : wdv f n a = 10354323 ↔ wEq f a (rn ltr f n a) [115, 109, 97, 108, 108] := wd_is _ (by decide) (by unfold ltr; decide) (by decide)
theorem wd_int {f : Nat → Int32} {n a : Nat} : wdv f n a = 6959 ↔ wEq f a (rn ltr f n a) [105, 110, 116] := wd_is _ (by decide) (by unfold ltr; decide) (by decide)
theorem wd_long {f : Nat → Int32} {n a : Nat} : wdv f n a = 247516 ↔ wEq f a (rn ltr f n a) [108, 111, 110, 103] := wd_is _ (by decide) (by unfold ltr; decide) (by decide)
theorem wd_text {f : Nat → Int32} {n a : Nat} : wdv f n a = 397973 ↔ wEq f a (rn ltr f n a) [116, 101, 120, 116] := wd_is _ (by decide) (by unfold ltr; decide) (by decide)
theorem wd_rec {f : Nat → Int32} {n a : Nat} : wdv f n a = 13260 ↔ wEq f a (rn ltr f n a) [114, 101, 99] := wd_is _ (by decide) (by unfold ltr; decide) (by decide)
theorem wd_in {f : Nat → Int32} {n a : Nat} : wdv f n a = 257 ↔ wEq f a (rn ltr f n a) [105, 110] := wd_is _ (by decide) (by unfold ltr; decide) (by decide)
theorem wd_0 {f : Nat → Int32} {n a : Nat} : wdv f n a = 0 ↔ rn ltr f n a = a := by
  have h := wd_is (f := f) (n := n) (a := a) (v := 0) [] (by decide) (fun j hj => absurd hj (by simp)) rfl
  rw [h]
  unfold wEq
  have := rn_ge ltr f n a
  constructor
  · intro w
    have : rn ltr f n a - a = 0 := w.1
    omega
  · intro w
    exact ⟨by rw [w, Nat.sub_self]; rfl, fun j hj => absurd hj (by simp)⟩
