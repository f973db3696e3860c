/-! the same bytes, the same makes -/
theorem PcA.eq {f g : Nat → Int32} {a b : Nat} (h : PcA f a b) (he : ∀ i, a ≤ i → i < b → g i = f i) : PcA g a b ∧ pV1 g a = pV1 f a ∧ pV2 g a = pV2 f a ∧ pFr g a = pFr f a ∧ pTo g a b = pTo f a b ∧ pNu g a = pNu f a := by
  obtain ⟨h1, h2, h3⟩ := id h
  have k1 := h1.1
  have k2 := h2.1
  have e1 : vk g a = vk f a := vk_same h1 (fun i hi => he _ (by omega) (by omega))
  have e2 : vk g (a + vk f a) = vk f (a + vk f a) := vk_same h2 (fun i hi => he _ (by omega) (by omega))
  have v1 : pV1 g a = pV1 f a := by
    unfold pV1
    rw [e1]
    exact vacc_same _ (fun i hi => he _ (by omega) (by omega))
  have v2 : pV2 g a = pV2 f a := by
    unfold pV2
    rw [e1, e2]
    exact vacc_same _ (fun i hi => he _ (by omega) (by omega))
  have fr : pFr g a = pFr f a := by
    unfold pFr
    rw [e1, e2]
  refine ⟨⟨by rw [e1]; exact h1.same (fun i hi => he _ (by omega) (by omega)), ?_, by rw [e1, e2]; exact h3⟩, v1, v2, fr, by unfold pTo; rw [v1, v2, fr], by unfold pNu; rw [v1]⟩
  rw [e1, e2]
  exact h2.same (fun i hi => he _ (by omega) (by omega))
theorem pOk.eq {st : RS} {f g : Nat → Int32} {m a b last : Nat} {gs : Int32} (hP : PcA f a b) (he : ∀ i, a ≤ i → i < b → g i = f i) (h : pOk st f m a b last gs) : pOk st g m a b last gs := by
  obtain ⟨-, v1, v2, fr, to, nu⟩ := hP.eq he
  have hlt := hP.lt
  unfold pOk at *
  rw [v1, v2, fr, to, nu]
  refine ⟨h.1, h.2.1, h.2.2.1, fun q => ⟨(h.2.2.2.1 q).1, fun w => ⟨((h.2.2.2.1 q).2 w).1, fun k k1 k2 => ?_⟩⟩, h.2.2.2.2⟩
  rw [he k (by omega) (by omega)]
  exact ((h.2.2.2.1 q).2 w).2 k k1 k2
theorem SdX.eq {st : RS} {f g : Nat → Int32} : ∀ (z m a b last : Nat) (gs : Int32), (∀ i, a ≤ i → i < b → g i = f i) → SdX st f z m a b last gs → SdX st g z m a b last gs := by
  intro z
  induction z with
  | zero => intro m a b last gs _ h; exact h.elim
  | succ z ih =>
    intro m a b last gs he h
    rcases h with h | ⟨h1, h2, h3, h4⟩
    · exact Or.inl h
    · obtain ⟨q1, v1, v2, fr, to, nu⟩ := h1.eq he
      have hlt := h1.lt
      refine Or.inr ⟨q1, h2.eq h1 he, ?_, ?_⟩
      · rw [to, nu]
        exact ih _ _ _ _ _ (fun i i1 i2 => he i (by omega) i2) h3
      · rw [to, nu, fr]
        exact fun w1 w2 => ih _ _ _ _ _ (fun i i1 i2 => he i (by omega) (by omega)) (h4 w1 w2)
theorem Sd.eq {st : RS} {f g : Nat → Int32} {m a b last : Nat} {gs : Int32} (he : ∀ i, a ≤ i → i < b → g i = f i) : Sd st g m a b last gs ↔ Sd st f m a b last gs := ⟨fun ⟨z, h⟩ => ⟨z, h.eq _ _ _ _ _ _ (fun i i1 i2 => (he i i1 i2).symm)⟩, fun ⟨z, h⟩ => ⟨z, h.eq _ _ _ _ _ _ he⟩⟩
/-- the makes are the same -/
def MkS (st t : RS) : Prop := gF t 1 = gF st 1 ∧ gF t 2 = gF st 2 ∧ gF t 3 = gF st 3 ∧ gF t 8 = gF st 8
theorem MkS.all {st t : RS} (h : MkS st t) : hasN t = hasN st ∧ kdN t = kdN st ∧ grN t = grN st ∧ inM t = inM st := by
  obtain ⟨h1, h2, h3, h8⟩ := h
  refine ⟨?_, ?_, ?_, ?_⟩
  · funext m n; unfold hasN; rw [h1, h8]
  · funext m n; unfold kdN; rw [h1]
  · funext m n; unfold grN; rw [h2]
  · funext m n; unfold inM; rw [h3]
theorem MkS.sd {st t : RS} (h : MkS st t) {f : Nat → Int32} : Sd t f = Sd st f := by
  obtain ⟨eh, ek, eg, ei⟩ := h.all
  have eo : pOk t = pOk st := by
    funext f m a b last gs
    unfold pOk
    rw [eh, ek, eg]
  have es : gsN t = gsN st := by
    funext m n gs
    unfold gsN
    rw [eh, eg]
  have e : ∀ z, SdX t f z = SdX st f z := by
    intro z
    induction z with
    | zero => rfl
    | succ z ih =>
      funext m a b last gs
      show (a = b ∨ (PcA f a b ∧ pOk t f m a b last gs ∧ SdX t f z m (pTo f a b) b (pNu f a) (gsN t m (pNu f a) gs) ∧ (hasN t m (pNu f a) → kdN t m (pNu f a) = 6 → SdX t f z (inM t m (pNu f a)) (pFr f a) (pTo f a b) 0 0))) = _
      rw [eo, es, eh, ek, ei, ih]
      rfl
  funext m a b last gs
  unfold Sd
  rw [show (fun z => SdX t f z m a b last gs) = (fun z => SdX st f z m a b last gs) from funext (fun z => by rw [e z])]
theorem TbR.eq {f g : Nat → Int32} {n N p : Nat} {st : RS} (h : TbR f n N p st) (he : ∀ i, i < n → g i = f i) : TbR g n N p st := by
  obtain ⟨c, ⟨h0, h1, h2⟩, h3⟩ := h
  refine ⟨c, ⟨h0, h1, fun i hi => ?_⟩, fun i hi => ?_⟩
  · obtain ⟨q1, v1, v2, fr, to, nu⟩ := (h2 i hi).1.eq (g := g) (fun j _ j2 => he j j2)
    rw [to]
    exact ⟨q1, (h2 i hi).2⟩
  · obtain ⟨q1, v1, v2, fr, to, nu⟩ := (h2 i hi).1.eq (g := g) (fun j _ j2 => he j j2)
    rw [to, fr, nu]
    exact h3 i hi
/-! the reference reads a record -/
def rbF (st : RS) (r : Nat) : Nat → Int32 := fun k => gF st 28 (120 * r + k)
def rbN (st : RS) (r : Nat) : Nat := (gF st 29 r).toNatClampNeg
def IrQ (st : RS) (r m : Nat) (q : Int32 × RS) : Prop :=
  Fr rdI rdF st q.2 ∧ (∀ k : Nat, k < rbN st r → gF q.2 30 k = rbF st r k) ∧ ((q.1 = 0 ∧ ¬ Sd st (rbF st r) m 0 (rbN st r) 0 0) ∨ q.1 = 1 ∧ Sd st (rbF st r) m 0 (rbN st r) 0 0 ∧ 0 ≤ (gI q.2 41).toInt ∧ (gI q.2 41).toInt ≤ 30 ∧ TbR (rbF st r) (rbN st r) (gI q.2 41).toNatClampNeg (rbN st r) q.2)
theorem r_isRd {r m : Int32} {st : RS} (h1 : 0 ≤ r.toInt) (h2 : r.toInt < 4) (hm : mkN st m) (hM : MkI st) (hR : RcI st) : Ok (x9_isRead r m st) (IrQ st r.toNatClampNeg m.toNatClampNeg) := by
  obtain ⟨l1, l2⟩ := hR r.toNatClampNeg (by rw [t_nat]; omega)
  unfold x9_isRead
  refine Ok.callv (r_loads h1 h2 l2) (fun t ht => ?_)
  obtain ⟨hF, hb⟩ := ht
  have e0 : gF t 0 = gF st 0 := (hF.2 0 (by decide)).1
  have e1 : gF t 1 = gF st 1 := (hF.2 1 (by decide)).1
  have e2 : gF t 2 = gF st 2 := (hF.2 2 (by decide)).1
  have e3 : gF t 3 = gF st 3 := (hF.2 3 (by decide)).1
  have e8 : gF t 8 = gF st 8 := (hF.2 8 (by decide)).1
  have e29 : gF t 29 = gF st 29 := (hF.2 29 (by decide)).1
  have hS : MkS st t := ⟨e1, e2, e3, e8⟩
  simp only [Ok_gd, t_in, e29]
  refine ⟨by omega, Ok.call (r_rd l1 l2 ⟨hm.1, hm.2.1, by rw [e0]; exact hm.2.2⟩ (hM.fr e0 e1 e3 e8 (hF.2 6 (by decide)).2)) (fun q u hu => ?_)⟩
  obtain ⟨hFu, hu⟩ := hu
  have u30 : gF u 30 = gF t 30 := (hFu.2 30 (by decide)).1
  have n29 : (rbN st r.toNatClampNeg : Int) = (gF st 29 r.toNatClampNeg).toInt := by unfold rbN; rw [t_nat (gF st 29 r.toNatClampNeg)]; omega
  have hb2 : ∀ k : Nat, k < rbN st r.toNatClampNeg → gF t 30 k = rbF st r.toNatClampNeg k := fun k hk => hb k (by omega)
  have eq : Sd t (gF t 30) m.toNatClampNeg 0 (rbN st r.toNatClampNeg) 0 0 ↔ Sd st (rbF st r.toNatClampNeg) m.toNatClampNeg 0 (rbN st r.toNatClampNeg) 0 0 := by
    rw [hS.sd]
    exact Sd.eq (fun i _ i2 => hb2 i i2)
  have hu : (q = 0 ∧ ¬ Sd t (gF t 30) m.toNatClampNeg 0 (rbN st r.toNatClampNeg) 0 0) ∨ q = 1 ∧ Sd t (gF t 30) m.toNatClampNeg 0 (rbN st r.toNatClampNeg) 0 0 ∧ 0 ≤ (gI u 41).toInt ∧ (gI u 41).toInt ≤ 30 ∧ TbR (gF t 30) (rbN st r.toNatClampNeg) (gI u 41).toNatClampNeg (rbN st r.toNatClampNeg) u := hu
  rw [eq] at hu
  simp only [Ok_gd, Ok_some]
  refine ⟨?_, (hF.d rfl rfl).tr (hFu.d rfl rfl), fun k hk => by show gF u 30 k = _; rw [u30]; exact hb2 k hk, ?_⟩
  · rcases hu with hu | hu
    · rw [hu.1]; decide
    · rw [hu.1]; decide
  · rcases hu with hu | ⟨u1, u2, u3, u4, u5⟩
    · exact Or.inl hu
    · exact Or.inr ⟨u1, u2, u3, u4, u5.eq (fun i hi => (hb2 i hi).symm)⟩
/-! counting -/
theorem cntP_n {P : Nat → Prop} {f : Nat → Int32} {b z a : Nat} (h : b ≤ a) : cntP P f b z a = 0 := by
  cases z with
  | zero => rfl
  | succ z =>
    show pif (a < b) _ 0 = 0
    rw [pif_neg (by omega)]
theorem cntP_s {P : Nat → Prop} {f : Nat → Int32} {b z a : Nat} (h : a < b) : cntP P f b (z + 1) a = pif (P (pNu f a)) 1 0 + cntP P f b z (pTo f a b) := by
  show pif (a < b) _ 0 = _
  rw [pif_pos h]
theorem cntP_le {P : Nat → Prop} {f : Nat → Int32} {b : Nat} : ∀ z a, cntP P f b z a ≤ z := by
  intro z
  induction z with
  | zero => intro a; exact Nat.le_refl _
  | succ z ih =>
    intro a
    show pif (a < b) _ 0 ≤ _
    by_cases c : a < b
    · rw [pif_pos c]
      have := ih (pTo f a b)
      by_cases d : P (pNu f a)
      · rw [pif_pos d]; omega
      · rw [pif_neg d]; omega
    · rw [pif_neg c]; omega
theorem TbC.lt {f : Nat → Int32} {n N p : Nat} {c : Nat → Nat} (h : TbC f n N p c) : ∀ i, i < N → c i + 2 ≤ c (i + 1) ∧ c (i + 1) ≤ n := fun i hi => by
  have := (h.2.2 i hi).1.lt
  rw [(h.2.2 i hi).2]
  omega
theorem TbC.ge {f : Nat → Int32} {n N p : Nat} {c : Nat → Nat} (h : TbC f n N p c) : ∀ i, i ≤ N → 2 * i ≤ c i := by
  intro i
  induction i with
  | zero => intro _; omega
  | succ i ih =>
    intro hi
    have := ih (by omega)
    have := (h.lt i (by omega)).1
    omega
theorem r_cnt53 (st : RS) (m : Int32) (f : Nat → Int32) (n N : Nat) (c : Nat → Nat) (h1 : 0 ≤ m.toInt) (h2 : m.toInt < 8) (hN : (gI st 41).toInt = N) (hN2 : N ≤ 30) (hc : TbC f n N n c) (hr : ∀ i, i < N → (gF st 42 i).toInt = pNu f (c i)) : ∀ (z i y C : Nat) (l4 l5 : Int32), l5.toInt = i → i ≤ N → N - i < z → n - c i < y → l4.toInt = C → C ≤ i → Ok (x9_read_53 z m l4 l5 st) (fun q => q.2 = st ∧ q.1.toInt = (C + cntP (hasN st m.toNatClampNeg) f n y (c i) : Nat)) := by
  intro z
  induction z with
  | zero => intro i y C l4 l5 q1 q2 q3; omega
  | succ z ih =>
    intro i y C l4 l5 h5 hi hz hy h4 hC
    have e5 := inc (x := l5) (by omega) (by omega)
    have e4 := inc (x := l4) (by omega) (by omega)
    have ln : l5.toNatClampNeg = i := by rw [t_nat]; omega
    rw [x9_read_53_s]
    generalize l5 + 1 = l5' at e5 ⊢
    generalize l4 + 1 = l4' at e4 ⊢
    rw [Ok_pif, t_le, hN, h5, Ok_some]
    refine ⟨fun q => ⟨rfl, ?_⟩, fun q => ?_⟩
    · have : i = N := by omega
      rw [this, hc.2.1, cntP_n (Nat.le_refl _)]
      exact h4
    · have hlt := hc.lt i (by omega)
      obtain ⟨y, rfl⟩ : ∃ k, y = k + 1 := ⟨y - 1, by omega⟩
      rw [cntP_s (by omega), ← (hc.2.2 i (by omega)).2]
      rw [Ok_gd, t_in, ln]
      have h42 := hr i (by omega)
      have n42 : (gF st 42 i).toNatClampNeg = pNu f (c i) := by rw [t_nat, h42]; omega
      refine ⟨by omega, Ok.bp (r_has h1 h2) (fun hy' => ?_) (fun hy' => ?_)⟩
      · rw [n42] at hy'
        rw [pif_neg (by decide), Ok_nam, Ok_nam, pif_pos hy']
        refine (ih (i + 1) y (C + 1) l4' l5' (by omega) (by omega) (by omega) (by omega) (by omega) (by omega)).mono (fun q hq => ⟨hq.1, by rw [hq.2]; omega⟩)
      · rw [n42] at hy'
        rw [pif_pos rfl, Ok_nam, pif_neg hy']
        refine (ih (i + 1) y C l4 l5' (by omega) (by omega) (by omega) (by omega) h4 (by omega)).mono (fun q hq => ⟨hq.1, by rw [hq.2]; omega⟩)
theorem r_cnt31 (st : RS) (m : Int32) (f : Nat → Int32) (n N : Nat) (c : Nat → Nat) (h1 : 0 ≤ m.toInt) (h2 : m.toInt < 8) (hN : (gI st 41).toInt = N) (hN2 : N ≤ 30) (hc : TbC f n N n c) (hr : ∀ i, i < N → (gF st 42 i).toInt = pNu f (c i)) : ∀ (z i y C : Nat) (l4 l5 : Int32), l5.toInt = i → i ≤ N → N - i < z → n - c i < y → l4.toInt = C → C ≤ i → Ok (x9_kept_31 z m l4 l5 st) (fun q => q.2 = st ∧ q.1.toInt = (C + cntP (fun k => ¬ hasN st m.toNatClampNeg k) f n y (c i) : Nat)) := by
  intro z
  induction z with
  | zero => intro i y C l4 l5 q1 q2 q3; omega
  | succ z ih =>
    intro i y C l4 l5 h5 hi hz hy h4 hC
    have e5 := inc (x := l5) (by omega) (by omega)
    have e4 := inc (x := l4) (by omega) (by omega)
    have ln : l5.toNatClampNeg = i := by rw [t_nat]; omega
    rw [x9_kept_31_s]
    generalize l5 + 1 = l5' at e5 ⊢
    generalize l4 + 1 = l4' at e4 ⊢
    rw [Ok_pif, t_le, hN, h5, Ok_some]
    refine ⟨fun q => ⟨rfl, ?_⟩, fun q => ?_⟩
    · have : i = N := by omega
      rw [this, hc.2.1, cntP_n (Nat.le_refl _)]
      exact h4
    · have hlt := hc.lt i (by omega)
      obtain ⟨y, rfl⟩ : ∃ k, y = k + 1 := ⟨y - 1, by omega⟩
      rw [cntP_s (by omega), ← (hc.2.2 i (by omega)).2]
      rw [Ok_gd, t_in, ln]
      have h42 := hr i (by omega)
      have n42 : (gF st 42 i).toNatClampNeg = pNu f (c i) := by rw [t_nat, h42]; omega
      refine ⟨by omega, Ok.bp (r_has h1 h2) (fun hy' => ?_) (fun hy' => ?_)⟩
      · rw [n42] at hy'
        rw [pif_neg (by decide), Ok_nam, pif_neg (fun w => w hy')]
        refine (ih (i + 1) y C l4 l5' (by omega) (by omega) (by omega) (by omega) h4 (by omega)).mono (fun q hq => ⟨hq.1, by rw [hq.2]; omega⟩)
      · rw [n42] at hy'
        rw [pif_pos rfl, Ok_nam, Ok_nam, pif_pos hy']
        refine (ih (i + 1) y (C + 1) l4' l5' (by omega) (by omega) (by omega) (by omega) (by omega) (by omega)).mono (fun q hq => ⟨hq.1, by rw [hq.2]; omega⟩)
theorem fndP_n {f : Nat → Int32} {b n z a : Nat} (h : b ≤ a) : fndP f b n z a = none := by
  cases z with
  | zero => rfl
  | succ z =>
    show pif (a < b) _ none = none
    rw [pif_neg (by omega)]
theorem fndP_s {f : Nat → Int32} {b n z a : Nat} (h : a < b) : fndP f b n (z + 1) a = pif (pNu f a = n) (some a) (fndP f b n z (pTo f a b)) := by
  show pif (a < b) _ none = _
  rw [pif_pos h]
theorem r_fnd2 (st : RS) (x : Int32) (f : Nat → Int32) (n N k : Nat) (c : Nat → Nat) (hx : x.toInt = k) (hN : (gI st 41).toInt = N) (hN2 : N ≤ 30) (hc : TbC f n N n c) (hr : ∀ i, i < N → (gF st 42 i).toInt = pNu f (c i)) : ∀ (z i y : Nat) (l : Int32), l.toInt = i → i ≤ N → N - i < z → n - c i < y → Ok (x9_pieceOf_2 z x l st) (fun q => q.2 = st ∧ ((q.1 = -1 ∧ fndP f n k y (c i) = none) ∨ ∃ j, j < N ∧ q.1.toInt = j ∧ fndP f n k y (c i) = some (c j))) := by
  intro z
  induction z with
  | zero => intro i y l q1 q2 q3; omega
  | succ z ih =>
    intro i y l h5 hi hz hy
    have e5 := inc (x := l) (by omega) (by omega)
    have ln : l.toNatClampNeg = i := by rw [t_nat]; omega
    rw [x9_pieceOf_2_s]
    generalize l + 1 = l' at e5 ⊢
    rw [Ok_pif, t_le, hN, h5, Ok_some]
    refine ⟨fun q => ⟨rfl, Or.inl ⟨rfl, ?_⟩⟩, fun q => ?_⟩
    · have : i = N := by omega
      rw [this, hc.2.1, fndP_n (Nat.le_refl _)]
    · have hlt := hc.lt i (by omega)
      obtain ⟨y, rfl⟩ : ∃ k, y = k + 1 := ⟨y - 1, by omega⟩
      rw [fndP_s (by omega), ← (hc.2.2 i (by omega)).2]
      rw [Ok_gd, t_in, ln]
      have h42 := hr i (by omega)
      refine ⟨by omega, ?_⟩
      rw [Ok_pif, t_eq, h42, hx]
      refine ⟨fun w => ?_, fun w => ?_⟩
      · rw [Ok_some, pif_pos (by omega)]
        exact ⟨rfl, Or.inr ⟨i, by omega, h5, rfl⟩⟩
      · rw [Ok_nam, pif_neg (by omega)]
        exact ih (i + 1) y l' (by omega) (by omega) (by omega) (by omega)
/-! the class counts and finds -/
theorem Sd.st1 {st : RS} {f : Nat → Int32} {m a b last : Nat} {gs : Int32} (h : Sd st f m a b last gs) (hab : a ≠ b) : PcA f a b ∧ pnum (pV1 f a) ≠ 0 ∧ ¬ psh (pV1 f a) (pV2 f a) (pFr f a) b ∧ ∃ last' gs', Sd st f m (pTo f a b) b last' gs' := by
  obtain ⟨h1, h2, h3, -⟩ := (Sd.iff hab).mp h
  exact ⟨h1, h2.1, h2.2.1, _, _, h3⟩
theorem m_count17 (r : RS) (f : Nat → Int32) (n : Nat) (hn : n ≤ 120) (row cap mk m : Nat) (kn : Int32) (P : Nat → Prop) (hkn : kn = 1 ∧ P = hasN r m ∨ kn = 0 ∧ P = fun k => ¬ hasN r m k) (g0 : CS) (hrw : isRw row cap) (hI0 : IR g0 r) (hB0 : RwB g0 row n f) (hmk0 : EqM g0 mk r m) : ∀ (z i a y C : Nat) (c l6 x : Int32) (g : CS), x.toInt = i → 120 - i < z → l6.toInt = a → 2 * i ≤ a → a ≤ n → n - a < y → c.toInt = C → C ≤ i → (∃ last gs, Sd r f m a n last gs) → Sr g0 g → Ok (fX3_countPieces_17 48 z (some row) (some mk) kn (some 50) c l6 x g) (fun q => Sr g0 q.2 ∧ q.1.toInt = (C + cntP P f n y a : Nat)) := by
  intro z
  induction z with
  | zero => intro i a y C c l6 x g q1 q2; omega
  | succ z ih =>
    intro i a y C c l6 x g hx hz h6 hia han hy hc hCi hSd hS
    have hC := hS.1
    have e := inc (x := x) (by omega) (by omega)
    have ec := inc (x := c) (by omega) (by omega)
    have hpc : isPc 50 := Or.inl ⟨by omega, by omega⟩
    have hrow := hC.2.2.2.2.2.2.2.2.2.get hrw
    have hB := hB0.sr hrw hS
    have hne : 50 ≠ row ∧ 50 ≠ row + 1 := rw_ne hrw 50 (by decide)
    rw [fX3_countPieces_17_s]
    unfold fX3_countPieces_62 fX3_countPieces_69
    generalize x + 1 = x' at e ⊢
    generalize c + 1 = c' at ec ⊢
    rw [Ok_pif, t_le, hx, show (120 : Int32).toInt = 120 from rfl]
    refine ⟨fun q => by omega, fun c1 => ?_⟩
    rw [Ok_ono]
    refine ⟨row, rfl, ?_⟩
    rw [Ok_gd]
    refine ⟨hrow.1, Ok.call (c_size hrow) (fun q t ht => ?_)⟩
    have e1 : q = qI g row 1 := congrArg Prod.fst ht
    have e2 : t = g := congrArg Prod.snd ht
    subst e2
    subst e1
    rw [Ok_pif, t_le, hB.1, h6, Ok_some]
    refine ⟨fun q => ⟨hS, ?_⟩, fun c2 => Ok.call (c_size hrow) (fun q' t' ht' => ?_)⟩
    · rw [cntP_n (by omega)]; exact hc
    have e1' : q' = qI t row 1 := congrArg Prod.fst ht'
    have e2' : t' = t := congrArg Prod.snd ht'
    subst e2'
    subst e1'
    rw [Ok_ono]
    refine ⟨50, rfl, ?_⟩
    rw [Ok_gd]
    obtain ⟨last, gs, hSd⟩ := hSd
    obtain ⟨hP, hp0, hps, hSd2⟩ := hSd.st1 (by omega)
    have hlt := hP.lt
    refine ⟨hC.pc hpc, Ok.callv (m_lk (hC.pc hpc) hne h6 hB.1 han (Nat.le_refl _) (by omega) hB hrow) (fun u hu => ?_)⟩
    obtain ⟨hFu, hL⟩ := hu
    have hSu := hS.tr (Sr.ob hC hFu (by decide))
    have hmu : EqM u mk r m := hmk0.cf cfL_s hSu.sf.2
    have hkm : qk u mk = 4 := by obtain ⟨ar, -, q, -⟩ := hmu; exact q.1
    have h5 : qI u 50 5 = 0 := Classical.byContradiction (fun q => hL.bad q ⟨hP, hp0, hps⟩)
    obtain ⟨-, -, -, -, p0, -, p3, p4, -, -⟩ := hL.pc (hSu.1.pc hpc) h5
    have hnu : (qI u 50 0).toNatClampNeg = pNu f a := by rw [p0]; rfl
    obtain ⟨y, rfl⟩ : ∃ k, y = k + 1 := ⟨y - 1, by omega⟩
    rw [cntP_s (by omega)]
    rw [Ok_ono]
    refine ⟨mk, rfl, ?_⟩
    rw [Ok_gd]
    refine ⟨hkm, Ok.same (m_knownAt hmu) (fun o ho => ?_)⟩
    rw [hnu] at ho
    have go : ∀ (c0 : Int32) (C0 : Nat), c0.toInt = C0 → C0 ≤ i + 1 → Ok (ono (some 50) (fun a_1 => gd (qk u a_1 = 5) (nam (qI u a_1 4) (fun v_4 => nam x' (fun v_5 => fX3_countPieces_17 48 z (some row) (some mk) kn (some 50) c0 v_4 v_5 u))))) (fun q => Sr g0 q.2 ∧ q.1.toInt = (C0 + cntP P f n y (pTo f a n) : Nat)) := fun c0 C0 h1 h2 => by
      rw [Ok_ono]
      refine ⟨50, rfl, ?_⟩
      rw [Ok_gd, Ok_nam, Ok_nam]
      exact ⟨hSu.1.pc hpc, ih (i + 1) (pTo f a n) y C0 c0 _ x' u (by omega) (by omega) p4 (by omega) hlt.2.2 (by omega) h1 h2 hSd2 hSu⟩
    have g1 := go c' (C + 1) (by omega) (by omega)
    have g0 := go c C hc (by omega)
    have ea : ∀ k : Nat, C + 1 + k = C + (1 + k) := fun k => by omega
    have eb : ∀ k : Nat, C + k = C + (0 + k) := fun k => by omega
    rw [ea] at g1
    rw [eb] at g0
    by_cases co : o = none
    · have hno : ¬ hasN r m (pNu f a) := fun q => ho.1.mpr q co
      rw [pif_pos co]
      rcases hkn with ⟨k1, k2⟩ | ⟨k1, k2⟩
      · rw [k1, pif_neg (by decide), pif_neg (by rw [k2]; exact hno), ← k1]
        exact g0
      · rw [k1, pif_pos rfl, Ok_nam, pif_pos (by rw [k2]; exact hno), ← k1]
        exact g1
    · have hy := ho.1.mp co
      rw [pif_neg co]
      rcases hkn with ⟨k1, k2⟩ | ⟨k1, k2⟩
      · rw [k1, pif_pos rfl, Ok_nam, pif_pos (by rw [k2]; exact hy), ← k1]
        exact g1
      · rw [k1, pif_neg (by decide), pif_neg (by rw [k2]; exact fun w => w hy), ← k1]
        exact g0
theorem m_count {r : RS} {f : Nat → Int32} {n row cap mk m : Nat} {kn : Int32} {P : Nat → Prop} {g : CS} (hn : n ≤ 120) (hkn : kn = 1 ∧ P = hasN r m ∨ kn = 0 ∧ P = fun k => ¬ hasN r m k) (hrw : isRw row cap) (hI : IR g r) (hB : RwB g row n f) (hmk : EqM g mk r m) (hSd : Sd r f m 0 n 0 0) : Ok (fX3_countPieces 48 (some row) (some mk) kn g) (fun q => Sr g q.2 ∧ q.1.toInt = (cntP P f n (n + 1) 0 : Nat)) := by
  obtain ⟨r1, r2, r3, r4, r5, r6⟩ := hI.1.2.2.2.1
  unfold fX3_countPieces
  simp only [Ok_ono, Ok_gd, Ok_nam]
  refine ⟨r1, 49, r3, r4, by rw [t_in, r5]; decide, ?_⟩
  rw [show (0 : Int32).toNatClampNeg = 0 from rfl, (r6 0 (by omega)).1]
  refine (m_count17 r f n hn row cap mk m kn P hkn g hrw hI hB hmk fuel 0 0 (n + 1) 0 0 0 0 g rfl (by unfold fuel; omega) rfl (by omega) (by omega) (by omega) rfl (by omega) ⟨0, 0, hSd⟩ (Sr.rf hI.1)).mono (fun q hq => ⟨hq.1, by rw [hq.2]; omega⟩)
/-- the piece found, or none -/
def FiE (f : Nat → Int32) (n k y a : Nat) (g0 : CS) (q : Option Nat × CS) : Prop := Sr g0 q.2 ∧ ((q.1 = none ∧ fndP f n k y a = none) ∨ ∃ p, q.1 = some 50 ∧ fndP f n k y a = some p ∧ PcE q.2 50 f p n)
theorem m_find13 (r : RS) (f : Nat → Int32) (n : Nat) (hn : n ≤ 120) (row cap m k : Nat) (x0 : Int32) (hx0 : x0.toInt = k) (g0 : CS) (hrw : isRw row cap) (hB0 : RwB g0 row n f) : ∀ (z i a y : Nat) (l6 x : Int32) (g : CS), x.toInt = i → 120 - i < z → l6.toInt = a → 2 * i ≤ a → a ≤ n → n - a < y → (∃ last gs, Sd r f m a n last gs) → Sr g0 g → Ok (fX3_find_13 48 z (some row) x0 (some 50) l6 x g) (FiE f n k y a g0) := by
  intro z
  induction z with
  | zero => intro i a y l6 x g q1 q2; omega
  | succ z ih =>
    intro i a y l6 x g hx hz h6 hia han hy hSd hS
    have hC := hS.1
    have e := inc (x := x) (by omega) (by omega)
    have hpc : isPc 50 := Or.inl ⟨by omega, by omega⟩
    have hrow := hC.2.2.2.2.2.2.2.2.2.get hrw
    have hB := hB0.sr hrw hS
    have hne : 50 ≠ row ∧ 50 ≠ row + 1 := rw_ne hrw 50 (by decide)
    rw [fX3_find_13_s]
    generalize x + 1 = x' at e ⊢
    rw [Ok_pif, t_le, hx, show (120 : Int32).toInt = 120 from rfl]
    refine ⟨fun q => by omega, fun c1 => ?_⟩
    rw [Ok_ono]
    refine ⟨row, rfl, ?_⟩
    rw [Ok_gd]
    refine ⟨hrow.1, Ok.call (c_size hrow) (fun q t ht => ?_)⟩
    have e1 : q = qI g row 1 := congrArg Prod.fst ht
    have e2 : t = g := congrArg Prod.snd ht
    subst e2
    subst e1
    rw [Ok_pif, t_le, hB.1, h6, Ok_some]
    refine ⟨fun q => ⟨hS, Or.inl ⟨rfl, fndP_n (by omega)⟩⟩, fun c2 => Ok.call (c_size hrow) (fun q' t' ht' => ?_)⟩
    have e1' : q' = qI t row 1 := congrArg Prod.fst ht'
    have e2' : t' = t := congrArg Prod.snd ht'
    subst e2'
    subst e1'
    rw [Ok_ono]
    refine ⟨50, rfl, ?_⟩
    rw [Ok_gd]
    obtain ⟨last, gs, hSd⟩ := hSd
    obtain ⟨hP, hp0, hps, hSd2⟩ := hSd.st1 (by omega)
    have hlt := hP.lt
    refine ⟨hC.pc hpc, Ok.callv (m_lk (hC.pc hpc) hne h6 hB.1 han (Nat.le_refl _) (by omega) hB hrow) (fun u hu => ?_)⟩
    obtain ⟨hFu, hL⟩ := hu
    have hSu := hS.tr (Sr.ob hC hFu (by decide))
    have h5 : qI u 50 5 = 0 := Classical.byContradiction (fun q => hL.bad q ⟨hP, hp0, hps⟩)
    have hpe := hL.pc (hSu.1.pc hpc) h5
    obtain ⟨-, -, -, -, p0, -, p3, p4, -, -⟩ := id hpe
    obtain ⟨y, rfl⟩ : ∃ k, y = k + 1 := ⟨y - 1, by omega⟩
    rw [Ok_pif, t_eq, p0, pNu_i, hx0]
    refine ⟨fun w => ?_, fun w => ?_⟩
    · rw [Ok_some]
      exact ⟨hSu, Or.inr ⟨a, rfl, by rw [fndP_s (by omega), pif_pos (by omega)], hpe⟩⟩
    · rw [Ok_nam, Ok_nam]
      refine (ih (i + 1) (pTo f a n) y _ x' u (by omega) (by omega) p4 (by omega) hlt.2.2 (by omega) hSd2 hSu).mono (fun q hq => ?_)
      unfold FiE
      rw [fndP_s (by omega), pif_neg (by omega)]
      exact hq
theorem m_find {r : RS} {f : Nat → Int32} {n row cap m k : Nat} {x0 : Int32} {g : CS} (hn : n ≤ 120) (hx0 : x0.toInt = k) (hrw : isRw row cap) (hC : CI g) (hB : RwB g row n f) (hSd : Sd r f m 0 n 0 0) : Ok (fX3_find 48 (some row) x0 g) (FiE f n k (n + 1) 0 g) := by
  obtain ⟨r1, r2, r3, r4, r5, r6⟩ := hC.2.2.2.1
  unfold fX3_find
  simp only [Ok_ono, Ok_gd, Ok_nam]
  refine ⟨r1, 49, r3, r4, by rw [t_in, r5]; decide, ?_⟩
  rw [show (0 : Int32).toNatClampNeg = 0 from rfl, (r6 0 (by omega)).1]
  exact m_find13 r f n hn row cap m k x0 hx0 g hrw hB fuel 0 0 (n + 1) 0 0 g rfl (by unfold fuel; omega) rfl (by omega) (by omega) (by omega) ⟨0, 0, hSd⟩ (Sr.rf hC)
