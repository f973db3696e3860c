/-! records: the pieces of a row as functions of the place -/
theorem pif_iff0 {c : Prop} {x : Int32} {k : Int32} (hk : k ≠ 0) : pif c k x = 0 ↔ ¬ c ∧ x = 0 := by
  by_cases h : c
  · rw [pif_pos h]
    exact ⟨fun q => absurd q hk, fun q => absurd h q.1⟩
  · rw [pif_neg h]
    exact ⟨fun q => ⟨h, q⟩, fun q => q.2⟩
/-- how long the varint at p is -/
noncomputable def vk (f : Nat → Int32) (p : Nat) : Nat := Classical.epsilon (fun k => Vd f p k)
theorem vk_of {f : Nat → Int32} {p k : Nat} (h : Vd f p k) : vk f p = k := (Classical.epsilon_spec (p := fun k => Vd f p k) ⟨k, h⟩).uniq h
noncomputable def pV1 (f : Nat → Int32) (a : Nat) : Int64 := vacc f a (vk f a)
noncomputable def pV2 (f : Nat → Int32) (a : Nat) : Int64 := vacc f (a + vk f a) (vk f (a + vk f a))
/-- where its body begins, where it ends, its number -/
noncomputable def pFr (f : Nat → Int32) (a : Nat) : Nat := a + vk f a + vk f (a + vk f a)
noncomputable def pTo (f : Nat → Int32) (a b : Nat) : Nat := (pto (pV1 f a) (pV2 f a) (pFr f a) b).toNat
noncomputable def pNu (f : Nat → Int32) (a : Nat) : Nat := (pnum (pV1 f a)).toNatClampNeg
/-- there is a piece at a, ahead of b -/
def PcA (f : Nat → Int32) (a b : Nat) : Prop := PcK f a b (vk f a) (vk f (a + vk f a))
theorem PcK.a {f : Nat → Int32} {a b k1 k2 : Nat} (h : PcK f a b k1 k2) : vk f a = k1 ∧ vk f (a + k1) = k2 ∧ PcA f a b := by
  have e1 := vk_of h.1
  have e2 := vk_of h.2.1
  refine ⟨e1, e2, ?_⟩
  unfold PcA
  rw [e1, e2]
  exact h
theorem PcA.lt {f : Nat → Int32} {a b : Nat} (h : PcA f a b) : a + 2 ≤ pFr f a ∧ pFr f a ≤ pTo f a b ∧ pTo f a b ≤ b := by
  have h1 := h.1.1
  have h2 := h.2.1.1
  have h3 := h.2.2
  have h4 := pto_r (pV1 f a) (pV2 f a) (pFr f a) b h3
  have e : pFr f a = a + vk f a + vk f (a + vk f a) := rfl
  unfold pTo
  omega
theorem pNu_r {f : Nat → Int32} {a : Nat} : pNu f a ≤ 30 := by
  have := pnum_r (pV1 f a)
  unfold pNu
  rw [t_nat]
  omega
theorem pNu_i {f : Nat → Int32} {a : Nat} : (pnum (pV1 f a)).toInt = pNu f a := by
  have := pnum_r (pV1 f a)
  unfold pNu
  rw [t_nat]
  omega
theorem vk_same {f g : Nat → Int32} {p q k : Nat} (h : Vd f p k) (he : ∀ i, i < k → g (q + i) = f (p + i)) : vk g q = k := vk_of (h.same he)
/-- the same bytes elsewhere -/
theorem PcA.same {f g : Nat → Int32} {a b q : Nat} (h : PcA f a b) (hs : ¬ psh (pV1 f a) (pV2 f a) (pFr f a) b) {e : Nat} (he : q + (pTo f a b - a) ≤ e) (hg : ∀ i, i < pTo f a b - a → g (q + i) = f (a + i)) : PcA g q e ∧ pV1 g q = pV1 f a ∧ pV2 g q = pV2 f a ∧ pFr g q = q + (pFr f a - a) ∧ pTo g q e = q + (pTo f a b - a) ∧ pNu g q = pNu f a ∧ ¬ psh (pV1 g q) (pV2 g q) (pFr g q) e := by
  have hl := h.lt
  obtain ⟨h1, h2, h3⟩ := id h
  have ef : pFr f a = a + vk f a + vk f (a + vk f a) := rfl
  have k1 := h1.1
  have k2 := h2.1
  have e1 : vk g q = vk f a := vk_same h1 (fun i hi => hg i (by omega))
  have e2 : vk g (q + vk f a) = vk f (a + vk f a) := vk_same h2 (fun i hi => by rw [show q + vk f a + i = q + (vk f a + i) by omega, show a + vk f a + i = a + (vk f a + i) by omega]; exact hg _ (by omega))
  have v1 : pV1 g q = pV1 f a := by
    unfold pV1
    rw [e1]
    exact vacc_same _ (fun i hi => hg i (by omega))
  have v2 : pV2 g q = pV2 f a := by
    unfold pV2
    rw [e1, e2]
    exact vacc_same _ (fun i hi => by rw [show q + vk f a + i = q + (vk f a + i) by omega, show a + vk f a + i = a + (vk f a + i) by omega]; exact hg _ (by omega))
  have fr : pFr g q = q + (pFr f a - a) := by
    unfold pFr
    rw [e1, e2]
    omega
  have hps : ¬ psh (pV1 g q) (pV2 g q) (pFr g q) e := by
    rw [v1, v2, fr]
    rintro ⟨q1, q2⟩
    refine hs ⟨q1, ?_⟩
    rcases q2 with q2 | q2
    · exact Or.inl q2
    · refine Classical.byContradiction (fun w => ?_)
      have w2 : ¬ psh (pV1 f a) (pV2 f a) (pFr f a) b := hs
      have et : pTo f a b = (pto (pV1 f a) (pV2 f a) (pFr f a) b).toNat := rfl
      unfold pto at et
      rw [pif_pos ⟨q1, w2⟩] at et
      have : ¬ ((pV2 f a).toInt < 0) := fun y => w (Or.inl y)
      omega
  have et : pTo g q e = q + (pTo f a b - a) := by
    unfold pTo pto
    rw [v1, v2, fr] at hps ⊢
    by_cases c : plg (pV1 f a)
    · rw [pif_pos ⟨c, hps⟩, pif_pos ⟨c, hs⟩]
      have : ¬ ((pV2 f a).toInt < 0 ∨ (b : Int) - pFr f a < (pV2 f a).toInt) := fun y => hs ⟨c, y⟩
      omega
    · rw [pif_neg (fun y => c y.1), pif_neg (fun y => c y.1)]
      omega
  refine ⟨⟨by rw [e1]; exact h1.same (fun i hi => hg i (by omega)), ?_, ?_⟩, v1, v2, fr, et, by unfold pNu; rw [v1], hps⟩
  · rw [e1, e2]
    exact h2.same (fun i hi => by rw [show q + vk f a + i = q + (vk f a + i) by omega, show a + vk f a + i = a + (vk f a + i) by omega]; exact hg _ (by omega))
  · rw [e1, e2]
    omega
/-! what a make says of a piece -/
def kdN (st : RS) (m n : Nat) : Int32 := gF st 1 (31 * m + n)
def grN (st : RS) (m n : Nat) : Int32 := gF st 2 (31 * m + n)
def bOn (gs g : Int32) : Prop := (gs >>> (g &&& 31)) &&& 1 = 1
noncomputable def gsN (st : RS) (m n : Nat) (gs : Int32) : Int32 := pif (hasN st m n ∧ 0 < (grN st m n).toInt) (gs ||| ((1 : Int32) <<< (grN st m n &&& 31))) gs
/-- the piece at a has no fault -/
def pOk (st : RS) (f : Nat → Int32) (m a b last : Nat) (gs : Int32) : Prop := pnum (pV1 f a) ≠ 0 ∧ ¬ psh (pV1 f a) (pV2 f a) (pFr f a) b ∧ (hasN st m (pNu f a) → (plg (pV1 f a) ↔ 4 < (kdN st m (pNu f a)).toInt)) ∧ (hasN st m (pNu f a) → ((kdN st m (pNu f a)).toInt < 5 → ofN (punf (pV2 f a)) (kdN st m (pNu f a))) ∧ (kdN st m (pNu f a) = 5 → pTo f a b ≤ pFr f a + 12 ∧ TxN f (pFr f a) (pTo f a b))) ∧ last < pNu f a ∧ ¬ (hasN st m (pNu f a) ∧ 0 < (grN st m (pNu f a)).toInt ∧ bOn gs (grN st m (pNu f a)))
theorem pfl_ok {st : RS} {f : Nat → Int32} {m a b k1 k2 : Nat} {lg fr to last gs : Int32} {A : Prop} (h30 : gF st 30 = f) (hK : PcK f a b k1 k2) (hA : A ↔ psh (vacc f a k1) (vacc f (a + k1) k2) (a + k1 + k2) b) (hlg : lg = 1 ↔ plg (vacc f a k1)) (hfr : fr.toInt = (a + k1 + k2 : Nat)) (hto : to.toInt = pto (vacc f a k1) (vacc f (a + k1) k2) (a + k1 + k2) b) (hl : 0 ≤ last.toInt) : pfl st m (pnum (vacc f a k1)) lg A fr to (punf (vacc f (a + k1) k2)) last gs = 0 ↔ pOk st f m a b last.toNatClampNeg gs := by
  obtain ⟨e1, e2, hP⟩ := hK.a
  have hlt := hP.lt
  have v1 : vacc f a k1 = pV1 f a := by unfold pV1; rw [e1]
  have v2 : vacc f (a + k1) k2 = pV2 f a := by unfold pV2; rw [e1, e2]
  have ef : a + k1 + k2 = pFr f a := by unfold pFr; rw [e1, e2]
  have hk := hK.2.2
  rw [v1, v2, ef] at hto hA
  rw [v1] at hlg
  rw [ef] at hfr hk
  have et : to.toInt = pTo f a b := by
    have := pto_r (pV1 f a) (pV2 f a) (pFr f a) b hk
    unfold pTo
    omega
  rw [v1, v2]
  unfold pfl pOk
  rw [pif_iff0 (k := 2) (by decide), pif_iff0 (k := 3) (by decide), pif_iff0 (k := 4) (by decide), pif_iff0 (k := 5) (by decide), pif_iff0 (k := 6) (by decide), pif_iff0 (k := 7) (by decide), hA, hlg, h30]
  have en : (pnum (pV1 f a)).toNatClampNeg = pNu f a := rfl
  have ek : gF st 1 (31 * m + pNu f a) = kdN st m (pNu f a) := rfl
  have eg : gF st 2 (31 * m + pNu f a) = grN st m (pNu f a) := rfl
  have fn : fr.toNatClampNeg = pFr f a := by rw [t_nat, hfr]; omega
  have tn : to.toNatClampNeg = pTo f a b := by rw [t_nat, et]; omega
  have ln : (last.toNatClampNeg : Int) = last.toInt := by rw [t_nat]; omega
  rw [en, ek, eg, fn, tn, pNu_i, hfr, et]
  refine and_congr_right (fun _ => and_congr_right (fun _ => and_congr ?_ (and_congr ?_ (and_congr ?_ ?_))))
  · exact ⟨fun q h => Classical.byContradiction (fun w => q ⟨h, w⟩), fun q w => w.2 (q w.1)⟩
  · constructor
    · intro q h
      refine ⟨fun k => Classical.byContradiction (fun w => q ⟨h, Or.inl ⟨k, w⟩⟩), fun k => Classical.byContradiction (fun w => q ⟨h, Or.inr ⟨k, fun y => w ⟨by omega, y.2⟩⟩⟩)⟩
    · rintro q ⟨h, w | w⟩
      · exact w.2 ((q h).1 w.1)
      · exact w.2 ⟨by have := ((q h).2 w.1).1; omega, ((q h).2 w.1).2⟩
  · omega
  · exact ⟨fun q => q.1, fun q => ⟨q, rfl⟩⟩
/-- a row from a to b that a make reads without a fault -/
def SdX (st : RS) (f : Nat → Int32) : Nat → Nat → Nat → Nat → Nat → Int32 → Prop
  | 0, _, _, _, _, _ => False
  | z + 1, m, a, b, last, gs => a = b ∨ (PcA f a b ∧ pOk st f m a b last gs ∧ SdX st f z m (pTo f a b) b (pNu f a) (gsN st m (pNu f a) gs) ∧ (hasN st m (pNu f a) → kdN st m (pNu f a) = 6 → SdX st f z (inM st m (pNu f a)) (pFr f a) (pTo f a b) 0 0))
theorem SdX.up {st : RS} {f : Nat → Int32} : ∀ (z m a b last : Nat) (gs : Int32), SdX st f z m a b last gs → SdX st f (z + 1) m a b last gs := by
  intro z
  induction z with
  | zero => intro m a b last gs h; exact h.elim
  | succ z ih =>
    intro m a b last gs h
    rcases h with h | ⟨h1, h2, h3, h4⟩
    · exact Or.inl h
    · exact Or.inr ⟨h1, h2, ih _ _ _ _ _ h3, fun q1 q2 => ih _ _ _ _ _ (h4 q1 q2)⟩
theorem SdX.le {st : RS} {f : Nat → Int32} {z y m a b last : Nat} {gs : Int32} (h : SdX st f z m a b last gs) (hz : z ≤ y) : SdX st f y m a b last gs := by
  obtain ⟨k, rfl⟩ : ∃ k, y = z + k := ⟨y - z, by omega⟩
  clear hz
  induction k with
  | zero => exact h
  | succ k ih => exact SdX.up _ _ _ _ _ _ ih
def Sd (st : RS) (f : Nat → Int32) (m a b last : Nat) (gs : Int32) : Prop := ∃ z, SdX st f z m a b last gs
theorem Sd.nil {st : RS} {f : Nat → Int32} {m a last : Nat} {gs : Int32} : Sd st f m a a last gs := ⟨1, Or.inl rfl⟩
theorem Sd.iff {st : RS} {f : Nat → Int32} {m a b last : Nat} {gs : Int32} (hne : a ≠ b) : Sd st f m a b last gs ↔ PcA f a b ∧ pOk st f m a b last gs ∧ Sd st f m (pTo f a b) b (pNu f a) (gsN st m (pNu f a) gs) ∧ (hasN st m (pNu f a) → kdN st m (pNu f a) = 6 → Sd st f (inM st m (pNu f a)) (pFr f a) (pTo f a b) 0 0) := by
  constructor
  · rintro ⟨z, hz⟩
    cases z with
    | zero => exact hz.elim
    | succ z =>
      rcases hz with h | ⟨h1, h2, h3, h4⟩
      · exact absurd h hne
      · exact ⟨h1, h2, ⟨z, h3⟩, fun q1 q2 => ⟨z, h4 q1 q2⟩⟩
  · rintro ⟨h1, h2, ⟨z, h3⟩, h4⟩
    by_cases q : hasN st m (pNu f a) ∧ kdN st m (pNu f a) = 6
    · obtain ⟨y, hy⟩ := h4 q.1 q.2
      exact ⟨(z + y) + 1, Or.inr ⟨h1, h2, h3.le (by omega), fun _ _ => hy.le (by omega)⟩⟩
    · exact ⟨z + 1, Or.inr ⟨h1, h2, h3, fun q1 q2 => absurd ⟨q1, q2⟩ q⟩⟩
theorem Sd.snd {st : RS} {f : Nat → Int32} : ∀ (z m a b last : Nat) (gs : Int32), SdX st f z m a b last gs → Snd st f m a b := by
  intro z
  induction z with
  | zero => intro m a b last gs h; exact h.elim
  | succ z ih =>
    intro m a b last gs h
    rcases h with h | ⟨h1, h2, h3, h4⟩
    · rw [h]; exact Snd.nil
    · exact Snd.cons (k1 := vk f a) (k2 := vk f (a + vk f a)) h1 h2.1 h2.2.1 h2.2.2.1 (ih _ _ _ _ _ h3) (fun q1 q2 => ih _ _ _ _ _ (h4 q1 q2))
/-! the pieces at the top -/
def TbC (f : Nat → Int32) (n N p : Nat) (c : Nat → Nat) : Prop := c 0 = 0 ∧ c N = p ∧ ∀ i, i < N → PcA f (c i) n ∧ c (i + 1) = pTo f (c i) n
theorem TbC.snoc {f : Nat → Int32} {n N p : Nat} {c : Nat → Nat} (h : TbC f n N p c) (hP : PcA f p n) : TbC f n (N + 1) (pTo f p n) (fun i => if i ≤ N then c i else pTo f p n) := by
  obtain ⟨h0, h1, h2⟩ := h
  refine ⟨by show (if 0 ≤ N then c 0 else _) = 0; rw [if_pos (by omega)]; exact h0, by show (if N + 1 ≤ N then _ else _) = _; rw [if_neg (by omega)], fun i hi => ?_⟩
  show PcA f (if i ≤ N then c i else _) n ∧ (if i + 1 ≤ N then c (i + 1) else _) = pTo f (if i ≤ N then c i else _) n
  rw [if_pos (by omega : i ≤ N)]
  by_cases e : i = N
  · rw [if_neg (by omega), e, h1]
    exact ⟨hP, rfl⟩
  · rw [if_pos (by omega)]
    exact h2 i (by omega)
/-- what reads() keeps of the pieces at the top -/
def TbR (f : Nat → Int32) (n N p : Nat) (st : RS) : Prop := ∃ c, TbC f n N p c ∧ ∀ i, i < N → (gF st 42 i).toInt = pNu f (c i) ∧ (gF st 43 i).toInt = c i ∧ (gF st 44 i).toInt = pFr f (c i) ∧ (gF st 45 i).toInt = pTo f (c i) n
theorem TbR.fr {f : Nat → Int32} {n N p : Nat} {st t : RS} (h : TbR f n N p st) (hk : ∀ k, 42 ≤ k → k ≤ 45 → gF t k = gF st k) : TbR f n N p t := by
  obtain ⟨c, h1, h2⟩ := h
  refine ⟨c, h1, fun i hi => ?_⟩
  rw [hk 42 (by decide) (by decide), hk 43 (by decide) (by decide), hk 44 (by decide) (by decide), hk 45 (by decide) (by decide)]
  exact h2 i hi
