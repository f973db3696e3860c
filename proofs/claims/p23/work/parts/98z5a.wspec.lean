/-! walks: what breaks, over the reference's makes -/
def wOth (r : RS) (a b n : Nat) : Prop := hasN r b n ∧ srt r a n ≠ srt r b n
def wNar (r : RS) (a b n : Nat) : Prop := hasN r b n ∧ srt r a n = 0 ∧ (gF r 1 (31 * b + n)).toInt < (gF r 1 (31 * a + n)).toInt
def wDif (r : RS) (a c n : Nat) : Prop := hasN r c n ∧ srt r a n ≠ 6 ∧ (gL r 6 (31 * a + n) ≠ gL r 6 (31 * c + n) ∨ srt r a n = 5 ∧ ∃ k : Nat, (k : Int) < (gL r 6 (31 * a + n)).toInt ∧ gF r 7 (12 * (31 * a + n) + k) ≠ gF r 7 (12 * (31 * c + n) + k))
def wMat (r : RS) (a b n : Nat) : Prop := hasN r b n ∧ gF r 2 (31 * b + n) ≠ 0 ∧ ∃ k, 1 ≤ k ∧ k < n ∧ hasN r b k ∧ gF r 2 (31 * b + k) = gF r 2 (31 * b + n) ∧ hasN r a k ∧ (gF r 2 (31 * a + k) = 0 ∨ gF r 2 (31 * a + k) ≠ gF r 2 (31 * a + n))
def inM (r : RS) (m n : Nat) : Nat := (gF r 3 (31 * m + n)).toNatClampNeg
def wIn (r : RS) (W : Nat → Nat → Nat → Prop → Prop) (a b c n : Nat) (pl : Prop) : Prop := (hasN r c n ∧ hasN r b n ∧ W (inM r a n) (inM r b n) (inM r c n) pl) ∨ (hasN r c n ∧ ¬ hasN r b n ∧ W (inM r a n) (inM r c n) (inM r c n) pl) ∨ (¬ hasN r c n ∧ hasN r b n ∧ W (inM r a n) (inM r b n) (inM r b n) True)
noncomputable def wWhy (r : RS) (W : Nat → Nat → Nat → Prop → Prop) (a b c n : Nat) (pl : Prop) : Nat := pif (wOth r a b n ∨ wOth r a c n) 1 (pif (wNar r a b n ∨ wNar r a c n) 2 (pif (¬ pl ∧ wDif r a c n) 3 (pif (wMat r a b n ∨ wMat r a c n) 4 (pif (srt r a n = 6 ∧ wIn r W a b c n pl) 5 0))))
def tld (r : RS) (m : Nat) : Prop := m < 8 ∧ gF r 0 m ≠ 0
def wBrk (r : RS) : Nat → Nat → Nat → Nat → Prop → Prop
  | 0 => fun _ _ _ _ => False
  | z + 1 => fun a b c pl => (tld r a ∧ tld r b ∧ tld r c) ∧ ∃ n, 1 ≤ n ∧ n ≤ 30 ∧ hasN r a n ∧ wWhy r (wBrk r z) a b c n pl ≠ 0
theorem wWhy_c {r : RS} {W W' : Nat → Nat → Nat → Prop → Prop} {a b c n : Nat} {pl : Prop} (h : srt r a n = 6 → (wIn r W a b c n pl ↔ wIn r W' a b c n pl)) : wWhy r W a b c n pl = wWhy r W' a b c n pl := by
  have e : (srt r a n = 6 ∧ wIn r W a b c n pl) = (srt r a n = 6 ∧ wIn r W' a b c n pl) := propext ⟨fun q => ⟨q.1, (h q.1).mp q.2⟩, fun q => ⟨q.1, (h q.1).mpr q.2⟩⟩
  unfold wWhy
  rw [e]
theorem inM_lt {r : RS} {a n : Nat} (hM : MkI r) (ht : tld r a) (hn : hasN r a n) (h6 : srt r a n = 6) : inM r a n < a ∧ tld r (inM r a n) := by
  obtain ⟨-, h2, -⟩ := hM a n ht.1 ht.2 hn
  obtain ⟨i1, i2, i3⟩ := h2 (srt_6 h6)
  have e : inM r a n = (gF r 3 (31 * a + n)).toInt.toNat := rfl
  refine ⟨by rw [e]; omega, by rw [e]; have := ht.1; omega, i3⟩
theorem wIn_c {r : RS} {W W' : Nat → Nat → Nat → Prop → Prop} {a b c n : Nat} {pl : Prop} (h : ∀ x y p, W (inM r a n) x y p ↔ W' (inM r a n) x y p) : wIn r W a b c n pl ↔ wIn r W' a b c n pl := by
  unfold wIn
  rw [h, h, h]
theorem wBrk_st {r : RS} (hM : MkI r) : ∀ (a z b c : Nat) (pl : Prop), a < z → (wBrk r z a b c pl ↔ wBrk r (a + 1) a b c pl) := by
  intro a
  induction a using Nat.strongRecOn with
  | ind a ih =>
    intro z b c pl hz
    obtain ⟨z, rfl⟩ : ∃ y, z = y + 1 := ⟨z - 1, by omega⟩
    have key : ∀ n, tld r a → hasN r a n → wWhy r (wBrk r z) a b c n pl = wWhy r (wBrk r a) a b c n pl := fun n ht hn => wWhy_c (fun h6 => by
      have hlt := (inM_lt hM ht hn h6).1
      exact wIn_c (fun x y p => (ih _ hlt z x y p (by omega)).trans (ih _ hlt a x y p hlt).symm))
    constructor
    · rintro ⟨ht, n, n1, n2, n3, n4⟩
      exact ⟨ht, n, n1, n2, n3, by rw [← key n ht.1 n3]; exact n4⟩
    · rintro ⟨ht, n, n1, n2, n3, n4⟩
      exact ⟨ht, n, n1, n2, n3, by rw [key n ht.1 n3]; exact n4⟩
/-- the first of z numbers from n on -/
noncomputable def fstF (P : Nat → Prop) : Nat → Nat → Nat
  | 0, _ => 0
  | z + 1, n => pif (P n) n (fstF P z (n + 1))
theorem fstF_0 {P : Nat → Prop} : ∀ (z n : Nat), (∀ k, n ≤ k → k < n + z → ¬ P k) → fstF P z n = 0 := by
  intro z
  induction z with
  | zero => intro n _; rfl
  | succ z ih =>
    intro n h
    show pif (P n) n (fstF P z (n + 1)) = 0
    rw [pif_neg (h n (by omega) (by omega))]
    exact ih (n + 1) (fun k k1 k2 => h k (by omega) (by omega))
theorem fstF_n {P : Nat → Prop} : ∀ (z n m : Nat), n ≤ m → m < n + z → P m → (∀ k, n ≤ k → k < m → ¬ P k) → fstF P z n = m := by
  intro z
  induction z with
  | zero => intro n m a b; omega
  | succ z ih =>
    intro n m h1 h2 h3 h4
    show pif (P n) n (fstF P z (n + 1)) = m
    by_cases c : n = m
    · rw [c, pif_pos h3]
    · rw [pif_neg (h4 n (by omega) (by omega))]
      exact ih (n + 1) m (by omega) (by omega) h3 (fun k k1 k2 => h4 k (by omega) k2)
theorem fstF_P {P : Nat → Prop} : ∀ (z n : Nat), 1 ≤ n → fstF P z n ≠ 0 → P (fstF P z n) ∧ n ≤ fstF P z n ∧ fstF P z n < n + z := by
  intro z
  induction z with
  | zero => intro n _ h; exact absurd rfl h
  | succ z ih =>
    intro n hn h
    have e : fstF P (z + 1) n = pif (P n) n (fstF P z (n + 1)) := rfl
    rw [e] at h ⊢
    by_cases c : P n
    · rw [pif_pos c]; exact ⟨c, by omega, by omega⟩
    · rw [pif_neg c] at h ⊢
      obtain ⟨a1, a2, a3⟩ := ih (n + 1) (by omega) h
      exact ⟨a1, by omega, by omega⟩
def wPn (r : RS) (a b c : Nat) (pl : Prop) (n : Nat) : Prop := hasN r a n ∧ wWhy r (wBrk r a) a b c n pl ≠ 0
noncomputable def wFst (r : RS) (a b c : Nat) (pl : Prop) : Nat := fstF (wPn r a b c pl) 30 1
def tl3 (r : RS) (a b c : Nat) : Prop := tld r a ∧ tld r b ∧ tld r c
noncomputable def byE (r : RS) (a b c : Nat) (pl : Prop) : Nat := pif (tl3 r a b c) (wFst r a b c pl) 0
noncomputable def whyE (r : RS) (a b c : Nat) (pl : Prop) : Nat := pif (tl3 r a b c) (pif (wFst r a b c pl = 0) 0 (wWhy r (wBrk r a) a b c (wFst r a b c pl) pl)) 0
theorem whyE_brk {r : RS} {a b c : Nat} {pl : Prop} : whyE r a b c pl ≠ 0 ↔ wBrk r (a + 1) a b c pl := by
  unfold whyE
  show _ ↔ (tld r a ∧ tld r b ∧ tld r c) ∧ ∃ n, 1 ≤ n ∧ n ≤ 30 ∧ hasN r a n ∧ wWhy r (wBrk r a) a b c n pl ≠ 0
  by_cases ht : tl3 r a b c
  · rw [pif_pos ht]
    by_cases h0 : wFst r a b c pl = 0
    · rw [pif_pos h0]
      refine ⟨fun q => absurd rfl q, fun q => ?_⟩
      obtain ⟨-, n, n1, n2, n3, n4⟩ := q
      exfalso
      -- the least such n
      have ex : ∃ m, (1 ≤ m ∧ m ≤ n ∧ wPn r a b c pl m) ∧ ∀ k, 1 ≤ k → k < m → ¬ wPn r a b c pl k := by
        have : ∀ d : Nat, ∀ n, n ≤ d → 1 ≤ n → wPn r a b c pl n → ∃ m, (1 ≤ m ∧ m ≤ n ∧ wPn r a b c pl m) ∧ ∀ k, 1 ≤ k → k < m → ¬ wPn r a b c pl k := by
          intro d
          induction d with
          | zero => intro n a b; omega
          | succ d ih =>
            intro n hd hn hp
            by_cases q : ∃ k, 1 ≤ k ∧ k < n ∧ wPn r a b c pl k
            · obtain ⟨k, k1, k2, k3⟩ := q
              obtain ⟨m, ⟨m1, m2, m3⟩, m4⟩ := ih k (by omega) k1 k3
              exact ⟨m, ⟨m1, by omega, m3⟩, m4⟩
            · exact ⟨n, ⟨hn, Nat.le_refl _, hp⟩, fun k k1 k2 k3 => q ⟨k, k1, k2, k3⟩⟩
        exact this n n (Nat.le_refl _) n1 ⟨n3, n4⟩
      obtain ⟨m, ⟨m1, m2, m3⟩, m4⟩ := ex
      have := fstF_n 30 1 m m1 (by omega) m3 m4
      unfold wFst at h0
      omega
    · rw [pif_neg h0]
      obtain ⟨a1, a2, a3⟩ := fstF_P 30 1 (by omega) h0
      exact ⟨fun q => ⟨ht, wFst r a b c pl, a2, by unfold wFst; omega, a1.1, q⟩, fun _ => a1.2⟩
  · rw [pif_neg ht]
    exact ⟨fun q => absurd rfl q, fun q => absurd q.1 ht⟩
theorem whyE_le {r : RS} {a b c : Nat} {pl : Prop} : whyE r a b c pl ≤ 5 := by
  have h : ∀ n, wWhy r (wBrk r a) a b c n pl ≤ 5 := fun n => by
    unfold wWhy
    by_cases c1 : wOth r a b n ∨ wOth r a c n
    · rw [pif_pos c1]; omega
    rw [pif_neg c1]
    by_cases c2 : wNar r a b n ∨ wNar r a c n
    · rw [pif_pos c2]; omega
    rw [pif_neg c2]
    by_cases c3 : ¬ pl ∧ wDif r a c n
    · rw [pif_pos c3]; omega
    rw [pif_neg c3]
    by_cases c4 : wMat r a b n ∨ wMat r a c n
    · rw [pif_pos c4]; omega
    rw [pif_neg c4]
    by_cases c5 : srt r a n = 6 ∧ wIn r (wBrk r a) a b c n pl
    · rw [pif_pos c5]; omega
    · rw [pif_neg c5]; omega
  unfold whyE
  by_cases ht : tl3 r a b c
  · rw [pif_pos ht]
    by_cases h0 : wFst r a b c pl = 0
    · rw [pif_pos h0]; omega
    · rw [pif_neg h0]; exact h _
  · rw [pif_neg ht]; omega
