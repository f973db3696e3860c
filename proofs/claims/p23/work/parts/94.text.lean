/-! texts: runs of blanks, letters, digits -/
def blk (x : Int32) : Prop := x = 10 ∨ x = 32
def ltr (x : Int32) : Prop := 97 ≤ x.toInt ∧ x.toInt ≤ 122
def dgt (x : Int32) : Prop := 48 ≤ x.toInt ∧ x.toInt ≤ 57
/-- from p to q all are such, and q is the first that isn't, or the end -/
def run (P : Int32 → Prop) (f : Nat → Int32) (n p q : Nat) : Prop := p ≤ q ∧ (∀ j, p ≤ j → j < q → j < n ∧ P (f j)) ∧ ¬ (q < n ∧ P (f q))
theorem run.uniq {P : Int32 → Prop} {f : Nat → Int32} {n p q q' : Nat} (h : run P f n p q) (h' : run P f n p q') : q' = q := by
  rcases Nat.lt_trichotomy q' q with c | c | c
  · exact absurd (h.2.1 q' h'.1 c) h'.2.2
  · exact c
  · exact absurd (h'.2.1 q h.1 c) h.2.2
noncomputable def rnS (P : Int32 → Prop) (f : Nat → Int32) (n : Nat) : Nat → Nat → Nat
  | 0, p => p
  | z + 1, p => pif (p < n ∧ P (f p)) (rnS P f n z (p + 1)) p
/-- where a run ends -/
noncomputable def rn (P : Int32 → Prop) (f : Nat → Int32) (n p : Nat) : Nat := rnS P f n (n - p) p
theorem rnS_run (P : Int32 → Prop) (f : Nat → Int32) (n : Nat) : ∀ (z p : Nat), n - p ≤ z → run P f n p (rnS P f n z p) := by
  intro z
  induction z with
  | zero =>
    intro p h
    exact ⟨Nat.le_refl _, fun j h1 h2 => absurd h1 (Nat.not_le.mpr h2), fun q => by have q1 : p < n := q.1; omega⟩
  | succ z ih =>
    intro p h
    show run P f n p (pif (p < n ∧ P (f p)) (rnS P f n z (p + 1)) p)
    by_cases c : p < n ∧ P (f p)
    · rw [pif_pos c]
      obtain ⟨h1, h2, h3⟩ := ih (p + 1) (by omega)
      refine ⟨by omega, fun j j1 j2 => ?_, h3⟩
      rcases Nat.lt_or_ge p j with q | q
      · exact h2 j (by omega) j2
      · rw [show j = p by omega]; exact c
    · rw [pif_neg c]
      exact ⟨Nat.le_refl _, fun j h1 h2 => absurd h1 (Nat.not_le.mpr h2), c⟩
theorem rn_run (P : Int32 → Prop) (f : Nat → Int32) (n p : Nat) : run P f n p (rn P f n p) := rnS_run P f n _ p (Nat.le_refl _)
theorem run.eq {P : Int32 → Prop} {f : Nat → Int32} {n p q : Nat} (h : run P f n p q) : q = rn P f n p := (rn_run P f n p).uniq h
theorem rn_le (P : Int32 → Prop) (f : Nat → Int32) {n p : Nat} (h : p ≤ n) : rn P f n p ≤ n := by
  obtain ⟨h1, h2, -⟩ := rn_run P f n p
  rcases Nat.lt_or_ge n (rn P f n p) with c | c
  · have := (h2 n h c).1
    omega
  · exact c
theorem rn_ge (P : Int32 → Prop) (f : Nat → Int32) (n p : Nat) : p ≤ rn P f n p := (rn_run P f n p).1
theorem rn_stop {P : Int32 → Prop} {f : Nat → Int32} {n p : Nat} (h : ¬ (p < n ∧ P (f p))) : rn P f n p = p := (run.eq ⟨Nat.le_refl _, fun j h1 h2 => absurd h1 (Nat.not_le.mpr h2), h⟩).symm
/-- the reference reads a text f of n bytes, at p -/
def Tx (f : Nat → Int32) (n p : Nat) (st : RS) : Prop := gF st 9 = f ∧ (gI st 12).toInt = n ∧ (gI st 11).toInt = p ∧ n ≤ 400 ∧ p ≤ 1000
/-- what stands at a place, -1 at the end -/
def pk1 (f : Nat → Int32) (n p : Nat) : Int32 := if p < n then f p else -1
theorem r_next0 (f : Nat → Int32) (n p : Nat) (st0 : RS) (h0 : Tx f n p st0) : ∀ (z i : Nat) (st : RS), p ≤ i → n - i < z → Fr [11, 17] [] st0 st → (gI st 11).toInt = i → i ≤ 1000 → (∀ j, p ≤ j → j < i → j < n ∧ blk (f j)) → Ok (x9_next_0 z st) (fun q => Fr [11, 17] [] st0 q.2 ∧ (gI q.2 11).toInt = rn blk f n p ∧ gI q.2 17 = gI q.2 11 ∧ q.1 = pk1 f n (rn blk f n p) ∧ rn blk f n p ≤ 1000) := by
  intro z
  induction z with
  | zero => intro i st a b; omega
  | succ z ih =>
    intro i st hp hz hF hi hi1 hB
    obtain ⟨f1, f2, f3, f4, f5⟩ := h0
    have e9 : gF st 9 = f := ((hF.2 9 (by decide)).1).trans f1
    have e12 : (gI st 12).toInt = n := by rw [(hF.1 12 (by decide)).1]; exact f2
    have ein : (gI st 11).toNatClampNeg = i := by rw [t_nat]; omega
    have ei := inc (x := gI st 11) (by omega) (by omega)
    have fin : ¬ (i < n ∧ blk (f i)) → Ok (x9_next_52 st) (fun q => Fr [11, 17] [] st0 q.2 ∧ (gI q.2 11).toInt = rn blk f n p ∧ gI q.2 17 = gI q.2 11 ∧ q.1 = pk1 f n (rn blk f n p) ∧ rn blk f n p ≤ 1000) := by
      intro hno
      have er : i = rn blk f n p := run.eq ⟨hp, hB, hno⟩
      rw [← er]
      unfold x9_next_52
      simp only [Ok_nam, Ok_pif, Ok_gd, Ok_some]
      have g11 : gI (sI st 17 (gI st 11)) 11 = gI st 11 := rfl
      have g12 : gI (sI st 17 (gI st 11)) 12 = gI st 12 := rfl
      have g9 : gF (sI st 17 (gI st 11)) 9 = f := e9
      rw [g11, g12, g9, t_le, e12, hi, t_in, ein]
      refine ⟨fun c => ⟨hF.sI (by decide), rfl, rfl, ?_, by omega⟩, fun c => ⟨by omega, hF.sI (by decide), rfl, rfl, ?_, by omega⟩⟩
      · unfold pk1; rw [if_neg (by omega)]
      · unfold pk1; rw [if_pos (by omega)]
    rw [x9_next_0_s]
    unfold x9_next_39
    simp only [Ok_pif, Ok_gd, Ok_nam, e9, ein]
    rw [t_le, e12, hi, t_in]
    have nx : i < n → blk (f i) → Ok (x9_next_0 z (sI st 11 (gI st 11 + 1))) (fun q => Fr [11, 17] [] st0 q.2 ∧ (gI q.2 11).toInt = rn blk f n p ∧ gI q.2 17 = gI q.2 11 ∧ q.1 = pk1 f n (rn blk f n p) ∧ rn blk f n p ≤ 1000) := fun c hb => ih (i + 1) _ (by omega) (by omega) (hF.sI (by decide)) (by show (gI st 11 + 1).toInt = _; rw [ei]; omega) (by omega) (fun j j1 j2 => by
      rcases Nat.lt_or_ge j i with q | q
      · exact hB j j1 q
      · rw [show j = i by omega]; exact ⟨c, hb⟩)
    exact ⟨fun c => fin (fun q => by omega), fun c => ⟨by omega, fun b => nx (by omega) (Or.inl b), fun b1 => ⟨by omega, fun b2 => nx (by omega) (Or.inr b2), fun b2 => fin (fun q => q.2.elim b1 b2)⟩⟩⟩
/-- next() -/
def NxP (f : Nat → Int32) (n p : Nat) (st : RS) (q : Int32 × RS) : Prop := Fr [11, 17] [] st q.2 ∧ Tx f n (rn blk f n p) q.2 ∧ gI q.2 17 = gI q.2 11 ∧ q.1 = pk1 f n (rn blk f n p)
theorem r_next {f : Nat → Int32} {n p : Nat} {st : RS} (h : Tx f n p st) : Ok (x9_next st) (NxP f n p st) := by
  refine (r_next0 f n p st h fuel p st (Nat.le_refl _) (by have := h.2.2.2.1; unfold fuel; omega) Fr.rf h.2.2.1 h.2.2.2.2 (fun j h1 h2 => absurd h1 (Nat.not_le.mpr h2))).mono (fun q hq => ?_)
  obtain ⟨a1, a2, a3, a4, a5⟩ := hq
  exact ⟨a1, ⟨((a1.2 9 (by decide)).1).trans h.1, by rw [(a1.1 12 (by decide)).1]; exact h.2.1, a2, h.2.2.2.1, a5⟩, a3, a4⟩
theorem r_isDigit {x : Int32} {st : RS} : Ok (x9_isDigit x st) (BP (dgt x) st) := by
  unfold x9_isDigit dgt
  simp only [Ok_pif, Ok_some]
  rw [t_lt, t_lt, show (48 : Int32).toInt = 48 from rfl, show (57 : Int32).toInt = 57 from rfl]
  exact ⟨fun c => BP.n (by omega), fun c => ⟨fun d => BP.n (by omega), fun d => BP.y (by omega)⟩⟩
theorem r_isLetter {x : Int32} {st : RS} : Ok (x9_isLetter x st) (BP (ltr x) st) := by
  unfold x9_isLetter ltr
  simp only [Ok_pif, Ok_some]
  rw [t_lt, t_lt, show (97 : Int32).toInt = 97 from rfl, show (122 : Int32).toInt = 122 from rfl]
  exact ⟨fun c => BP.n (by omega), fun c => ⟨fun d => BP.n (by omega), fun d => BP.y (by omega)⟩⟩
theorem r_wordEnd5 (f : Nat → Int32) (n p : Nat) (st : RS) (h : Tx f n p st) : ∀ (z i : Nat) (x : Int32), x.toInt = i → p ≤ i → i ≤ 1000 → n - i < z → (∀ j, p ≤ j → j < i → j < n ∧ ltr (f j)) → Ok (x9_wordEnd_5 z x st) (fun q => q.2 = st ∧ q.1.toInt = rn ltr f n p) := by
  intro z
  induction z with
  | zero => intro i x a b c d; omega
  | succ z ih =>
    intro i x hx hp hi hz hB
    obtain ⟨f1, f2, f3, f4, f5⟩ := id h
    have xn : x.toNatClampNeg = i := by rw [t_nat]; omega
    have e := inc (x := x) (by omega) (by omega)
    rw [x9_wordEnd_5_s]
    generalize x + 1 = x' at e ⊢
    simp only [Ok_pif, Ok_gd, Ok_some, f1, xn]
    rw [t_le, f2, hx, t_in]
    refine ⟨fun c => ⟨trivial, ?_⟩, fun c => ⟨by omega, Ok.bp r_isLetter (fun hl => ?_) (fun hl => ?_)⟩⟩
    · rw [← run.eq ⟨hp, hB, fun q => by omega⟩]
    · simp only [Ok_pif, Ok_nam]
      refine ⟨fun h => absurd h (by decide), fun _ => ih (i + 1) x' (by omega) (by omega) (by omega) (by omega) (fun j j1 j2 => ?_)⟩
      rcases Nat.lt_or_ge j i with q | q
      · exact hB j j1 q
      · rw [show j = i by omega]; exact ⟨by omega, hl⟩
    · simp only [Ok_pif, Ok_some]
      refine ⟨fun _ => ⟨trivial, ?_⟩, fun h => by simp at h⟩
      rw [hx, ← run.eq ⟨hp, hB, fun q => hl q.2⟩]
theorem r_wordEnd {f : Nat → Int32} {n p : Nat} {st : RS} (h : Tx f n p st) : Ok (x9_wordEnd st) (fun q => q.2 = st ∧ q.1.toInt = rn ltr f n p) := by
  unfold x9_wordEnd
  rw [Ok_nam]
  exact r_wordEnd5 f n p st h fuel p (gI st 11) h.2.2.1 (Nat.le_refl _) h.2.2.2.2 (by have := h.2.2.2.1; unfold fuel; omega) (fun j h1 h2 => absurd h1 (Nat.not_le.mpr h2))
/-- k letters from a on, packed -/
def pkv (f : Nat → Int32) (a : Nat) : Nat → Int64
  | 0 => 0
  | k + 1 => (((27 * pkv f a k) + (f (a + k)).toInt64) - 97) + 1
theorem r_word33 (f : Nat → Int32) (a b : Nat) (st : RS) (h9 : gF st 9 = f) (hab : a ≤ b) (hb : b ≤ 400) (l3 : Int32) (h3 : l3.toInt = b) : ∀ (z i : Nat) (v : Int64) (x : Int32), x.toInt = (a + i : Nat) → a + i ≤ b → b - (a + i) < z → v = pkv f a i → Ok (x9_word_33 z v l3 x st) (fun q => q.2 = st ∧ q.1 = pkv f a (b - a)) := by
  intro z
  induction z with
  | zero => intro i v x c d e; omega
  | succ z ih =>
    intro i v x hx hi hz hv
    have xn : x.toNatClampNeg = a + i := by rw [t_nat]; omega
    have e := inc (x := x) (by omega) (by omega)
    rw [x9_word_33_s]
    generalize x + 1 = x' at e ⊢
    simp only [Ok_pif, Ok_gd, Ok_some, Ok_nam, h9, xn]
    rw [t_le, h3, t_in]
    refine ⟨fun c => ⟨trivial, ?_⟩, fun c => ⟨by omega, ih (i + 1) _ x' (by omega) (by omega) (by omega) ?_⟩⟩
    · rw [hv, show b - a = i by omega]
    · rw [hv]; rfl
/-- the word at a place: its letters packed, -1 if they are too many -/
noncomputable def wdv (f : Nat → Int32) (n a : Nat) : Int64 := pif (rn ltr f n a - a ≤ 8) (pkv f a (rn ltr f n a - a)) (-1)
theorem r_word {f : Nat → Int32} {n p : Nat} {st : RS} (h : Tx f n p st) (hp : p ≤ n) : Ok (x9_word st) (fun q => Fr [11, 17] [] st q.2 ∧ Tx f n (rn blk f n p) q.2 ∧ q.1 = wdv f n (rn blk f n p)) := by
  unfold x9_word
  refine Ok.call (r_next h) (fun c t ht => ?_)
  obtain ⟨t1, t2, t3, t4⟩ := ht
  have t2 : Tx f n (rn blk f n p) t := t2
  have hn1 := rn_le blk f hp
  have hn2 := rn_le ltr f hn1
  have hg := rn_ge ltr f n (rn blk f n p)
  refine Ok.call (r_wordEnd t2) (fun w u hu => ?_)
  obtain ⟨u1, u2⟩ := hu
  have u1 : u = t := u1
  have u2 : w.toInt = rn ltr f n (rn blk f n p) := u2
  subst u1
  have n400 := t2.2.2.2.1
  have es : (w - gI u 11).toInt = (rn ltr f n (rn blk f n p) : Int) - rn blk f n p := by rw [t_sub (by rw [t2.2.2.1]; omega) (by rw [t2.2.2.1]; omega), u2, t2.2.2.1]
  simp only [Ok_pif, Ok_nam, Ok_some]
  rw [t_le, es, show (8 : Int32).toInt = 8 from rfl]
  unfold wdv
  refine ⟨fun c => ?_, fun c => ⟨t1, t2, ?_⟩⟩
  · rw [pif_pos (by omega)]
    refine (r_word33 f (rn blk f n p) (rn ltr f n (rn blk f n p)) u t2.1 hg (by omega) w u2 fuel 0 0 (gI u 11) (by rw [t2.2.2.1]; rfl) (by omega) (by unfold fuel; omega) rfl).mono (fun q hq => ⟨?_, ?_, hq.2⟩)
    · rw [hq.1]; exact t1
    · rw [hq.1]; exact t2
  · rw [pif_neg (by omega)]
