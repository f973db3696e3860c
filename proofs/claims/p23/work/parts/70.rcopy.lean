/-- one piece, from a to b -/
def Pc1 (f : Nat → Int32) (a b : Nat) : Prop := ∃ k1 k2, PcK f a b k1 k2 ∧ (¬ plg (vacc f a k1) → b = a + k1 + k2) ∧ (plg (vacc f a k1) → (b : Int) = (a + k1 + k2 : Nat) + (vacc f (a + k1) k2).toInt)
theorem Pc1.lt {f : Nat → Int32} {a b : Nat} (h : Pc1 f a b) : a + 2 ≤ b := by
  obtain ⟨k1, k2, ⟨h1, h2, h3⟩, -, -⟩ := h
  have := h1.1
  have := h2.1
  omega
theorem Pc1.shift {f g : Nat → Int32} {a b q : Nat} (h : Pc1 f a b) (he : ∀ i, i < b - a → g (q + i) = f (a + i)) : Pc1 g q (q + (b - a)) := by
  obtain ⟨k1, k2, ⟨h1, h2, h3⟩, h4, h5⟩ := h
  have e1 : vacc g q k1 = vacc f a k1 := vacc_same k1 (fun i hi => he i (by omega))
  have he2 : ∀ i, i < k2 → g (q + k1 + i) = f (a + k1 + i) := fun i hi => by
    rw [Nat.add_assoc q, Nat.add_assoc a]
    exact he (k1 + i) (by omega)
  have e2 : vacc g (q + k1) k2 = vacc f (a + k1) k2 := vacc_same k2 he2
  refine ⟨k1, k2, ⟨h1.same (fun i hi => he i (by omega)), h2.same he2, by omega⟩, fun h => ?_, fun h => ?_⟩
  · rw [e1] at h
    have := h4 h
    omega
  · rw [e1] at h
    have := h5 h
    rw [e2]
    omega
/-- pieces one behind the other, from a to b -/
def Pcs (f : Nat → Int32) (a b : Nat) : Prop := ∃ (N : Nat) (c : Nat → Nat), c 0 = a ∧ c N = b ∧ ∀ i, i < N → Pc1 f (c i) (c (i + 1))
theorem Pcs.nil {f : Nat → Int32} {a : Nat} : Pcs f a a := ⟨0, fun _ => a, rfl, rfl, fun i hi => absurd hi (by omega)⟩
theorem Pcs.snoc {f : Nat → Int32} {a b c : Nat} (h : Pcs f a b) (h1 : Pc1 f b c) : Pcs f a c := by
  obtain ⟨N, d, h2, h3, h4⟩ := h
  refine ⟨N + 1, fun i => if i ≤ N then d i else c, ?_, ?_, fun i hi => ?_⟩
  · show (if 0 ≤ N then d 0 else c) = a
    rw [if_pos (by omega)]
    exact h2
  · show (if N + 1 ≤ N then d (N + 1) else c) = c
    rw [if_neg (by omega)]
  · show Pc1 f (if i ≤ N then d i else c) (if i + 1 ≤ N then d (i + 1) else c)
    rw [if_pos (show i ≤ N by omega)]
    by_cases e : i + 1 ≤ N
    · rw [if_pos e]
      exact h4 i (by omega)
    · rw [if_neg e, show i = N by omega, h3]
      exact h1
theorem cuts_mono {f : Nat → Int32} {c : Nat → Nat} {N : Nat} (h : ∀ i, i < N → Pc1 f (c i) (c (i + 1))) : ∀ j, j ≤ N → ∀ i, i ≤ j → c i ≤ c j := by
  intro j
  induction j with
  | zero => intro _ i hi; rw [show i = 0 by omega]; exact Nat.le_refl _
  | succ j ih =>
    intro hj i hi
    have := (h j (by omega)).lt
    rcases Nat.lt_or_ge i (j + 1) with q | q
    · have := ih (by omega) i (by omega)
      omega
    · rw [show i = j + 1 by omega]; exact Nat.le_refl _
theorem Pcs.same {f g : Nat → Int32} {a b : Nat} (h : Pcs f a b) (he : ∀ i, a ≤ i → i < b → g i = f i) : Pcs g a b := by
  obtain ⟨N, c, h1, h2, h3⟩ := h
  refine ⟨N, c, h1, h2, fun i hi => ?_⟩
  have l1 := cuts_mono h3 i (by omega) 0 (by omega)
  have l2 := cuts_mono h3 N (Nat.le_refl _) (i + 1) (by omega)
  have h4 := (h3 i hi).shift (q := c i) (g := g) (fun j hj => he _ (by omega) (by omega))
  have := (h3 i hi).lt
  rw [show c i + (c (i + 1) - c i) = c (i + 1) by omega] at h4
  exact h4
theorem r_w202 (P : RS → Prop) (k : Int32 → Int32 → RS → Option RS) (l m : Int32) (st : RS) (n p to : Nat) (h1 : 0 ≤ l.toInt) (h2 : l.toInt < 9) (hto : (gI st 36).toInt = to) (hpt : p ≤ to) (ht : to ≤ 160) (hr : 160 * l.toNatClampNeg + n + (to - p) ≤ 1440)
    (hk : ∀ t, LaP st l.toNatClampNeg n (to - p) t → (∀ i, i < to - p → gF t 52 (160 * l.toNatClampNeg + n + i) = gF st 30 (p + i)) → Ok (k l m t) P) : ∀ (z i : Nat) (x : Int32) (t : RS), x.toInt = (p + i : Nat) → i ≤ to - p → to - p - i < z → LaP st l.toNatClampNeg n i t → (∀ j, j < i → gF t 52 (160 * l.toNatClampNeg + n + j) = gF st 30 (p + j)) → Ok (x9_writes_202 k z l m x t) P := by
  intro z
  induction z with
  | zero => intro i x t a b c; omega
  | succ z ih =>
    intro i x t hx hi hz hP hB
    have e36 : gI t 36 = gI st 36 := (hP.1.1 36 (by decide)).1
    have e30 : gF t 30 = gF st 30 := (hP.1.2 30 (by decide)).1
    have xn : x.toNatClampNeg = p + i := by rw [t_nat]; omega
    rw [x9_writes_202_s]
    simp only [Ok_pif, Ok_gd, t_le, t_in, e36, e30, xn]
    refine ⟨fun c => ?_, fun c => ⟨by omega, Ok.callv (r_lays h1 h2 hP.2.1 (by omega)) (fun u hu => ?_)⟩⟩
    · have : i = to - p := by omega
      subst this
      exact hk t hP hB
    · obtain ⟨hu1, hu2⟩ := hu
      rw [Ok_nam]
      have e : (x + 1).toInt = x.toInt + 1 := by rw [t_add (by show -2147483648 ≤ x.toInt + 1; omega) (by show x.toInt + 1 < 2147483648; omega)]; rfl
      generalize x + 1 = x' at e ⊢
      refine ih (i + 1) x' u (by omega) (by omega) (by omega) (hP.tr hu1) (fun j hj => ?_)
      rcases Nat.lt_or_ge j i with q | q
      · rw [hu1.2.2.2 _ (Or.inl (by omega))]
        exact hB j q
      · have hji : j = i := by omega
        subst hji
        rw [show 160 * l.toNatClampNeg + n + j = 160 * l.toNatClampNeg + (n + j) by omega, hu2]
theorem w337_202 (k : Int32 → Int32 → RS → Option RS) : ∀ (z : Nat) (l m x : Int32) (t : RS), x9_writes_337 k z l m x t = x9_writes_202 k z l m x t := by
  intro z
  induction z with
  | zero => intro l m x t; rfl
  | succ z ih =>
    intro l m x t
    rw [x9_writes_337_s, x9_writes_202_s]
    simp only [ih]
theorem r_w97 (P : RS → Prop) (k : Int32 → Int32 → RS → Option RS) (l m : Int32) (st : RS) (n len : Nat) (h1 : 0 ≤ l.toInt) (h2 : l.toInt + 1 < 9) (hlen : LyN st (l.toNatClampNeg + 1) len) (hl2 : len ≤ 160) (hn : n + len ≤ 160)
    (hk : ∀ t, LaP st l.toNatClampNeg n len t → (∀ i, i < len → gF t 52 (160 * l.toNatClampNeg + n + i) = gF st 52 (160 * (l.toNatClampNeg + 1) + i)) → Ok (k l m t) P) : ∀ (z i : Nat) (x : Int32) (t : RS), x.toInt = i → i ≤ len → len - i < z → LaP st l.toNatClampNeg n i t → (∀ j, j < i → gF t 52 (160 * l.toNatClampNeg + n + j) = gF st 52 (160 * (l.toNatClampNeg + 1) + j)) → Ok (x9_writes_97 k z l m x t) P := by
  intro z
  induction z with
  | zero => intro i x t a b c; omega
  | succ z ih =>
    intro i x t hx hi hz hP hB
    have ln : (l.toNatClampNeg : Int) = l.toInt := by rw [t_nat]; omega
    have el : (l + 1).toInt = l.toInt + 1 := by rw [t_add (by show -2147483648 ≤ l.toInt + 1; omega) (by show l.toInt + 1 < 2147483648; omega)]; rfl
    have eln : (l + 1).toNatClampNeg = l.toNatClampNeg + 1 := by rw [t_nat, el]; omega
    have e53 : gF t 53 (l.toNatClampNeg + 1) = gF st 53 (l.toNatClampNeg + 1) := hP.2.2.1 _ (by omega)
    have i53 := hlen.i (by omega)
    have em : (160 * (l + 1)).toInt = 160 * (l.toInt + 1) := by
      rw [t_mul (by rw [el]; show -2147483648 ≤ 160 * (l.toInt + 1); omega) (by rw [el]; show 160 * (l.toInt + 1) < 2147483648; omega), el]
      rfl
    have ea : (160 * (l + 1) + x).toInt = 160 * (l.toInt + 1) + i := by rw [t_add (by omega) (by omega), em, hx]
    have en : (160 * (l + 1) + x).toNatClampNeg = 160 * (l.toNatClampNeg + 1) + i := by rw [t_nat, ea]; omega
    rw [x9_writes_97_s]
    simp only [Ok_pif, Ok_gd, t_le, t_in, el, eln, e53, i53, ea, en]
    refine ⟨by omega, fun c => ?_, fun c => ⟨by omega, Ok.callv (r_lays h1 (by omega) hP.2.1 (by omega)) (fun u hu => ?_)⟩⟩
    · have : i = len := by omega
      subst this
      exact hk t hP hB
    · obtain ⟨hu1, hu2⟩ := hu
      rw [Ok_nam]
      have e : (x + 1).toInt = x.toInt + 1 := by rw [t_add (by show -2147483648 ≤ x.toInt + 1; omega) (by show x.toInt + 1 < 2147483648; omega)]; rfl
      generalize x + 1 = x' at e ⊢
      refine ih (i + 1) x' u (by omega) (by omega) (by omega) (hP.tr hu1) (fun j hj => ?_)
      rcases Nat.lt_or_ge j i with q | q
      · rw [hu1.2.2.2 _ (Or.inl (by omega))]
        exact hB j q
      · have hji : j = i := by omega
        subst hji
        rw [show 160 * l.toNatClampNeg + n + j = 160 * l.toNatClampNeg + (n + j) by omega, hu2]
        exact hP.2.2.2 _ (Or.inr (by omega))
