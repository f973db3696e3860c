theorem pfl_0 {st : RS} {m : Nat} {num lg a b last gs : Int32} {v : Int64} {A : Prop} (h : pfl st m num lg A a b v last gs = 0) : num ≠ 0 ∧ ¬ A ∧ (hasN st m num.toNatClampNeg → (lg = 1 ↔ 4 < (gF st 1 (31 * m + num.toNatClampNeg)).toInt)) ∧ last.toInt < num.toInt := by
  unfold pfl at h
  by_cases c1 : num = 0
  · rw [pif_pos c1] at h; exact absurd h (by decide)
  rw [pif_neg c1] at h
  by_cases c2 : A
  · rw [pif_pos c2] at h; exact absurd h (by decide)
  rw [pif_neg c2] at h
  by_cases c3 : hasN st m num.toNatClampNeg ∧ ¬ (lg = 1 ↔ 4 < (gF st 1 (31 * m + num.toNatClampNeg)).toInt)
  · rw [pif_pos c3] at h; exact absurd h (by decide)
  rw [pif_neg c3] at h
  refine ⟨c1, c2, fun hh => Classical.byContradiction (fun q => c3 ⟨hh, q⟩), ?_⟩
  by_cases c6 : num.toInt ≤ last.toInt
  · by_cases c5 : hasN st m num.toNatClampNeg ∧ (((gF st 1 (31 * m + num.toNatClampNeg)).toInt < 5 ∧ ¬ ofN v (gF st 1 (31 * m + num.toNatClampNeg))) ∨ (gF st 1 (31 * m + num.toNatClampNeg) = 5 ∧ ¬ (b.toInt - a.toInt ≤ 12 ∧ TxN (gF st 30) a.toNatClampNeg b.toNatClampNeg)))
    · rw [pif_pos c5] at h; exact absurd h (by decide)
    · rw [pif_neg c5, pif_pos c6] at h; exact absurd h (by decide)
  · omega
/-- recs are of makes that are less and told -/
def MkI (st : RS) : Prop := ∀ m n : Nat, m < 8 → gF st 0 m ≠ 0 → hasN st m n → (gF st 1 (31 * m + n)).toInt ≤ 6 ∧ (gF st 1 (31 * m + n) = 6 → 0 ≤ (gF st 3 (31 * m + n)).toInt ∧ (gF st 3 (31 * m + n)).toInt < m ∧ gF st 0 (gF st 3 (31 * m + n)).toNatClampNeg ≠ 0) ∧ (gF st 1 (31 * m + n) = 5 → 0 ≤ (gL st 6 (31 * m + n)).toInt ∧ (gL st 6 (31 * m + n)).toInt ≤ 12)
theorem MkI.fr {st t : RS} (h : MkI st) (h0 : gF t 0 = gF st 0) (h1 : gF t 1 = gF st 1) (h3 : gF t 3 = gF st 3) (h8 : gF t 8 = gF st 8) (h6 : gL t 6 = gL st 6) : MkI t := by
  unfold MkI hasN at *
  rw [h0, h1, h3, h8, h6]
  exact h
/-- the bytes of a row from a to b are pieces that a make can read, down to depth z -/
def SndS (st : RS) (f : Nat → Int32) : Nat → Nat → Nat → Nat → Prop
  | 0, _, _, _ => False
  | z + 1, m, a, b => a = b ∨ ∃ k1 k2, PcK f a b k1 k2 ∧ pnum (vacc f a k1) ≠ 0 ∧ ¬ psh (vacc f a k1) (vacc f (a + k1) k2) (a + k1 + k2) b ∧ (hasN st m (pnum (vacc f a k1)).toNatClampNeg → (plg (vacc f a k1) ↔ 4 < (gF st 1 (31 * m + (pnum (vacc f a k1)).toNatClampNeg)).toInt)) ∧ SndS st f z m (pto (vacc f a k1) (vacc f (a + k1) k2) (a + k1 + k2) b).toNat b ∧ (hasN st m (pnum (vacc f a k1)).toNatClampNeg → gF st 1 (31 * m + (pnum (vacc f a k1)).toNatClampNeg) = 6 → SndS st f z (gF st 3 (31 * m + (pnum (vacc f a k1)).toNatClampNeg)).toNatClampNeg (a + k1 + k2) (pto (vacc f a k1) (vacc f (a + k1) k2) (a + k1 + k2) b).toNat)
theorem SndS.up {st : RS} {f : Nat → Int32} : ∀ (z m a b : Nat), SndS st f z m a b → SndS st f (z + 1) m a b := by
  intro z
  induction z with
  | zero => intro m a b h; exact h.elim
  | succ z ih =>
    intro m a b h
    rcases h with h | ⟨k1, k2, h1, h2, h3, h4, h5, h6⟩
    · exact Or.inl h
    · exact Or.inr ⟨k1, k2, h1, h2, h3, h4, ih _ _ _ h5, fun q1 q2 => ih _ _ _ (h6 q1 q2)⟩
theorem SndS.le {st : RS} {f : Nat → Int32} {z y m a b : Nat} (h : SndS st f z m a b) (hz : z ≤ y) : SndS st f y m a b := by
  obtain ⟨k, rfl⟩ : ∃ k, y = z + k := ⟨y - z, by omega⟩
  induction k with
  | zero => exact h
  | succ k ih => exact SndS.up _ _ _ _ (ih (by omega))
def Snd (st : RS) (f : Nat → Int32) (m a b : Nat) : Prop := ∃ z, SndS st f z m a b
theorem Snd.nil {st : RS} {f : Nat → Int32} {m a : Nat} : Snd st f m a a := ⟨1, Or.inl rfl⟩
theorem Snd.cons {st : RS} {f : Nat → Int32} {m a b k1 k2 : Nat} (h1 : PcK f a b k1 k2) (h2 : pnum (vacc f a k1) ≠ 0) (h3 : ¬ psh (vacc f a k1) (vacc f (a + k1) k2) (a + k1 + k2) b) (h4 : hasN st m (pnum (vacc f a k1)).toNatClampNeg → (plg (vacc f a k1) ↔ 4 < (gF st 1 (31 * m + (pnum (vacc f a k1)).toNatClampNeg)).toInt)) (h5 : Snd st f m (pto (vacc f a k1) (vacc f (a + k1) k2) (a + k1 + k2) b).toNat b) (h6 : hasN st m (pnum (vacc f a k1)).toNatClampNeg → gF st 1 (31 * m + (pnum (vacc f a k1)).toNatClampNeg) = 6 → Snd st f (gF st 3 (31 * m + (pnum (vacc f a k1)).toNatClampNeg)).toNatClampNeg (a + k1 + k2) (pto (vacc f a k1) (vacc f (a + k1) k2) (a + k1 + k2) b).toNat) : Snd st f m a b := by
  obtain ⟨z, hz⟩ := h5
  by_cases q : hasN st m (pnum (vacc f a k1)).toNatClampNeg ∧ gF st 1 (31 * m + (pnum (vacc f a k1)).toNatClampNeg) = 6
  · obtain ⟨y, hy⟩ := h6 q.1 q.2
    exact ⟨(z + y) + 1, Or.inr ⟨k1, k2, h1, h2, h3, h4, hz.le (by omega), fun _ _ => hy.le (by omega)⟩⟩
  · exact ⟨z + 1, Or.inr ⟨k1, k2, h1, h2, h3, h4, hz, fun q1 q2 => absurd ⟨q1, q2⟩ q⟩⟩
theorem Snd.inv {st : RS} {f : Nat → Int32} {m a b : Nat} (h : Snd st f m a b) (hne : a ≠ b) : ∃ k1 k2, PcK f a b k1 k2 ∧ pnum (vacc f a k1) ≠ 0 ∧ ¬ psh (vacc f a k1) (vacc f (a + k1) k2) (a + k1 + k2) b ∧ (hasN st m (pnum (vacc f a k1)).toNatClampNeg → (plg (vacc f a k1) ↔ 4 < (gF st 1 (31 * m + (pnum (vacc f a k1)).toNatClampNeg)).toInt)) ∧ Snd st f m (pto (vacc f a k1) (vacc f (a + k1) k2) (a + k1 + k2) b).toNat b ∧ (hasN st m (pnum (vacc f a k1)).toNatClampNeg → gF st 1 (31 * m + (pnum (vacc f a k1)).toNatClampNeg) = 6 → Snd st f (gF st 3 (31 * m + (pnum (vacc f a k1)).toNatClampNeg)).toNatClampNeg (a + k1 + k2) (pto (vacc f a k1) (vacc f (a + k1) k2) (a + k1 + k2) b).toNat) := by
  obtain ⟨z, hz⟩ := h
  cases z with
  | zero => exact hz.elim
  | succ z =>
    rcases hz with h | ⟨k1, k2, h1, h2, h3, h4, h5, h6⟩
    · exact absurd h hne
    · exact ⟨k1, k2, h1, h2, h3, h4, ⟨z, h5⟩, fun q1 q2 => ⟨z, h6 q1 q2⟩⟩
theorem r_opens {d m a b : Int32} {st : RS} (h1 : 0 ≤ d.toInt) (h2 : d.toInt < 9) : Ok (x9_opens d m a b st) (fun t => t = sF (sF (sF (sF (sF st 47 (upd (gF st 47) d.toNatClampNeg m)) 48 (upd (gF st 48) d.toNatClampNeg a)) 49 (upd (gF st 49) d.toNatClampNeg b)) 50 (upd (gF st 50) d.toNatClampNeg 0)) 51 (upd (gF st 51) d.toNatClampNeg 0)) := by
  unfold x9_opens
  simp only [Ok_gd, Ok_nam, Ok_some, t_in]
  exact ⟨by omega, by omega, by omega, by omega, by omega, rfl⟩
/-- the record r comes into the row -/
def LdP (st : RS) (r : Int32) (t : RS) : Prop := Fr [] [30] st t ∧ ∀ k : Nat, (k : Int) < (gF st 29 r.toNatClampNeg).toInt → gF t 30 k = gF st 28 (120 * r.toNatClampNeg + k)
theorem r_loads2 (r : Int32) (st : RS) (h1 : 0 ≤ r.toInt) (h2 : r.toInt < 4) (h3 : (gF st 29 r.toNatClampNeg).toInt ≤ 120) : ∀ (n : Nat) (l : Int32) (t : RS), 0 ≤ l.toInt → l.toInt ≤ 120 → (120 - l.toInt).toNat < n → Fr [] [30] st t → (∀ k : Nat, (k : Int) < l.toInt → gF t 30 k = gF st 28 (120 * r.toNatClampNeg + k)) → Ok (x9_loads_2 n r l t) (LdP st r) := by
  intro n
  induction n with
  | zero => intro l t a b c; omega
  | succ n ih =>
    intro l t a b c hF hk
    have e29 : gF t 29 = gF st 29 := (hF.2 29 (by decide)).1
    have e28 : gF t 28 = gF st 28 := (hF.2 28 (by decide)).1
    have em : (120 * r).toInt = 120 * r.toInt := by
      rw [t_mul (by simp; omega) (by simp; omega)]
      rfl
    rw [x9_loads_2_s]
    simp only [Ok_gd, Ok_pif, Ok_nam, Ok_some, e29, e28]
    simp only [t_in, t_le]
    refine ⟨by omega, fun q => ⟨hF, fun k h => hk k (by omega)⟩, fun q => ?_⟩
    have ea : (120 * r + l).toInt = 120 * r.toInt + l.toInt := by rw [t_add (by omega) (by omega), em]
    have en : (120 * r + l).toNatClampNeg = 120 * r.toNatClampNeg + l.toNatClampNeg := by rw [t_nat, t_nat, t_nat, ea]; omega
    have e1 : (l + 1).toInt = l.toInt + 1 := by rw [t_add (by simp; omega) (by simp; omega)]; rfl
    refine ⟨by omega, by omega, ih (l + 1) _ (by omega) (by omega) (by omega) (hF.sF (by decide)) (fun k h => ?_)⟩
    rw [gF_sF, if_pos rfl, upd_at]
    by_cases c : k = l.toNatClampNeg
    · rw [if_pos c, en, c]
    · rw [if_neg c]
      exact hk k (by rw [t_nat] at c; omega)
theorem r_loads {r : Int32} {st : RS} (h1 : 0 ≤ r.toInt) (h2 : r.toInt < 4) (h3 : (gF st 29 r.toNatClampNeg).toInt ≤ 120) : Ok (x9_loads r st) (LdP st r) := r_loads2 r st h1 h2 h3 fuel 0 st (by decide) (by decide) (by decide) Fr.rf (fun k h => by have : (0 : Int32).toInt = 0 := rfl; omega)
