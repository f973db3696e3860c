/-! class: the text reader's small steps -/
def TrI (f : Nat → Int32) (n : Nat) (g : CS) : Prop := (qk g 45 = 9 ∧ qP g 45 0 = some 33 ∧ qP g 45 1 = some 44 ∧ qP g 45 2 = some 46) ∧ RowI g 33 400 ∧ (qI g 33 1).toInt = n ∧ (∀ j, j < n → qI g 34 j = f j ∧ 0 ≤ (f j).toInt ∧ (f j).toInt ≤ 255) ∧ CI8 g ∧ LwI g
theorem TrI.fr {f : Nat → Int32} {n F : Nat} {a b : Int} {g t : CS} (h : TrI f n g) (hT : Tf F a b g t) (hL : LwI t) (hF : F = 46 ∨ 106 ≤ F) : TrI f n t := by
  obtain ⟨⟨h1, h2, h3, h4⟩, h5, h6, h7, h8, h9⟩ := h
  obtain ⟨⟨t1, t2⟩, t3, t4, t5, -, -⟩ := hT
  obtain ⟨-, -, -, -, -, -, -, -, l9, l10, -, l12⟩ := h9
  have i33 : qI t 33 = qI g 33 := (t4 33 (by omega) (by decide) (by decide) (by omega) (by omega)).1
  have i34 : qI t 34 = qI g 34 := (t4 34 (by omega) (by decide) (by decide) (by omega) (by omega)).1
  have p45 : qP t 45 = qP g 45 := t5 45 (by omega) (by decide) (by omega)
  refine ⟨⟨by rw [(t3 45 (by omega)).1]; exact h1, by rw [p45]; exact h2, by rw [p45]; exact h3, by rw [p45]; exact h4⟩, ?_, by rw [i33]; exact h6, fun j hj => by rw [i34]; exact h7 j hj, ⟨by omega, fun i hi => ?_⟩, hL⟩
  · obtain ⟨r1, r2, r3, r4, r5, r6, r7⟩ := h5
    exact ⟨by rw [(t3 33 (by omega)).1]; exact r1, by rw [t5 33 (by omega) (by decide) (by omega)]; exact r2, by rw [(t3 34 (by omega)).1]; exact r3, by rw [(t3 34 (by omega)).2]; exact r4, by rw [i33]; exact r5, by rw [i33]; exact r6, r7⟩
  · obtain ⟨a1, a2, a3, a4, a5, a6⟩ := h8.2 i hi
    have e1 : qI t i = qI g i := (t4 i (by omega) (by omega) (by omega) (by omega) (by omega)).1
    have e2 : qI t (9 + i) = qI g (9 + i) := (t4 (9 + i) (by omega) (by omega) (by omega) (by omega) (by omega)).1
    exact ⟨by rw [(t3 i (by omega)).1]; exact a1, by rw [t5 i (by omega) (by omega) (by omega)]; exact a2, by rw [e1]; exact a3, by rw [(t3 (9 + i) (by omega)).1]; exact a4, by rw [(t3 (9 + i) (by omega)).2]; exact a5, by rw [e2]; exact a6⟩
/-- the reader stands at p, with no fault -/
def Tr (f : Nat → Int32) (n p : Nat) (g : CS) : Prop := TrI f n g ∧ (qI g 45 3).toInt = p ∧ qI g 45 4 = 0
theorem TrI.n400 {f : Nat → Int32} {n : Nat} {g : CS} (h : TrI f n g) : n ≤ 400 := by
  have := h.2.1.2.2.2.2.2.1
  have := h.2.2.1
  omega
def BC (c : Prop) (g : CS) (q : Int32 × CS) : Prop := (c ∧ q = (1, g)) ∨ (¬ c ∧ q = (0, g))
theorem Ok.bc {β : Type} {c : Prop} {g : CS} {x : Option (Int32 × CS)} {k : Int32 → CS → Option β} {P : β → Prop} (h : Ok x (BC c g)) (hy : c → Ok (k 1 g) P) (hn : ¬ c → Ok (k 0 g) P) : Ok (bnd x k) P := Ok.call h (fun r t ht => by
  rcases ht with ⟨h1, h2⟩ | ⟨h1, h2⟩
  · cases h2; exact hy h1
  · cases h2; exact hn h1)
theorem w_at {f : Nat → Int32} {n p : Nat} {x : Int32} {g : CS} (h : TrI f n g) (hx : x.toInt = p) : Ok (fX5_byteAt 33 x g) (fun q => q = (pk1 f n p, g)) := by
  refine (c_byteAt h.2.1).mono (fun q hq => ?_)
  rw [hq]
  congr 1
  have h6 := h.2.2.1
  unfold bAt pk1
  by_cases c : p < n
  · rw [if_pos c, pif_pos ⟨by omega, by omega⟩]
    have e : x.toNatClampNeg = p := by rw [t_nat]; omega
    rw [e]
    exact (h.2.2.2.1 p c).1
  · rw [if_neg c, pif_neg (fun q => by omega)]
theorem pk1_P {P : Int32 → Prop} {f : Nat → Int32} {n p : Nat} (h : ¬ P (-1)) : P (pk1 f n p) ↔ p < n ∧ P (f p) := by
  unfold pk1
  by_cases c : p < n
  · rw [if_pos c]; exact ⟨fun q => ⟨c, q⟩, fun q => q.2⟩
  · rw [if_neg c]; exact ⟨fun q => absurd q h, fun q => absurd q.1 c⟩
theorem w_isLetter {f : Nat → Int32} {n p : Nat} {x : Int32} {g : CS} (h : TrI f n g) (hx : x.toInt = p) : Ok (fX6_isLetter 45 x g) (BC (p < n ∧ ltr (f p)) g) := by
  unfold fX6_isLetter
  simp only [Ok_gd, Ok_ono]
  refine ⟨h.1.1, 33, h.1.2.1, h.2.1.1, Ok.call (w_at h hx) (fun r t ht => ?_)⟩
  cases ht
  simp only [Ok_pif, Ok_some]
  rw [← pk1_P (P := ltr) (f := f) (by unfold ltr; decide), t_lt, t_lt, show (97 : Int32).toInt = 97 from rfl, show (122 : Int32).toInt = 122 from rfl]
  unfold ltr
  exact ⟨fun c => Or.inr ⟨by omega, rfl⟩, fun c => ⟨fun d => Or.inr ⟨by omega, rfl⟩, fun d => Or.inl ⟨by omega, rfl⟩⟩⟩
theorem w_isDigit {f : Nat → Int32} {n p : Nat} {x : Int32} {g : CS} (h : TrI f n g) (hx : x.toInt = p) : Ok (fX6_isDigit 45 x g) (BC (p < n ∧ dgt (f p)) g) := by
  unfold fX6_isDigit
  simp only [Ok_gd, Ok_ono]
  refine ⟨h.1.1, 33, h.1.2.1, h.2.1.1, Ok.call (w_at h hx) (fun r t ht => ?_)⟩
  cases ht
  simp only [Ok_pif, Ok_some]
  rw [← pk1_P (P := dgt) (f := f) (by unfold dgt; decide), t_lt, t_lt, show (48 : Int32).toInt = 48 from rfl, show (57 : Int32).toInt = 57 from rfl]
  unfold dgt
  exact ⟨fun c => Or.inr ⟨by omega, rfl⟩, fun c => ⟨fun d => Or.inr ⟨by omega, rfl⟩, fun d => Or.inl ⟨by omega, rfl⟩⟩⟩
theorem w_digitAt {f : Nat → Int32} {n p : Nat} {x : Int32} {g : CS} (h : TrI f n g) (hx : x.toInt = p) : Ok (fX6_digitAt 45 x g) (fun q => q.2 = g ∧ ((p < n ∧ dgt (f p)) ∧ q.1.toInt = (f p).toInt - 48 ∨ ¬ (p < n ∧ dgt (f p)) ∧ q.1 = -1)) := by
  unfold fX6_digitAt
  simp only [Ok_gd, Ok_ono]
  refine ⟨h.1.1, 33, h.1.2.1, h.2.1.1, Ok.call (w_at h hx) (fun r t ht => ?_)⟩
  cases ht
  simp only [Ok_pif, Ok_some]
  have hP := pk1_P (P := dgt) (f := f) (n := n) (p := p) (by unfold dgt; decide)
  have he : p < n → pk1 f n p = f p := fun q => if_pos q
  generalize pk1 f n p = y at *
  rw [t_lt, t_lt, show (48 : Int32).toInt = 48 from rfl, show (57 : Int32).toInt = 57 from rfl]
  refine ⟨fun c => ⟨trivial, Or.inr ⟨fun q => ?_, trivial⟩⟩, fun c => ⟨fun d => ⟨trivial, Or.inr ⟨fun q => ?_, trivial⟩⟩, fun d => ⟨trivial, Or.inl ?_⟩⟩⟩
  · have := hP.mpr q
    unfold dgt at this
    omega
  · have := hP.mpr q
    unfold dgt at this
    omega
  · have hd : dgt y := ⟨by omega, by omega⟩
    have hp := hP.mp hd
    refine ⟨hp, ?_⟩
    rw [← he hp.1, t_sub (by show -2147483648 ≤ y.toInt - 48; omega) (by show y.toInt - 48 < 2147483648; omega)]
    rfl
/-- a fault is told -/
theorem w_refuse {f : Nat → Int32} {n : Nat} {w x : Int32} {g : CS} (h : TrI f n g) (hw : w ≠ 0) : Ok (fX6_refuse 45 w x g) (fun q => q.1 = 0 ∧ TrI f n q.2 ∧ Tf 46 0 0 g q.2 ∧ qI q.2 45 4 ≠ 0) := by
  unfold fX6_refuse
  simp only [Ok_gd, Ok_nam, Ok_some]
  have hT : Tf 46 0 0 g (wI (wI g 45 4 w) 45 5 x) := (Tf.w45 (by decide)).tr (Tf.w45 (by decide))
  have hn := h.2.2.2.2.2.n46
  refine ⟨h.1.1, trivial, h.fr hT ((h.2.2.2.2.2.i (by decide) (by omega)).i (by decide) (by show 45 ≠ lb g; omega)) (Or.inl rfl), hT, ?_⟩
  rw [qI_wI, if_pos rfl, if_neg (by decide), qI_wI, if_pos rfl, if_pos rfl]
  exact hw
/-- the place goes on -/
theorem Tr.go {f : Nat → Int32} {n p d : Nat} {x : Int32} {g : CS} (h : Tr f n p g) (hx : x.toInt = (p + d : Nat)) (hpn : p + d ≤ n := by omega) : Tr f n (p + d) (wI g 45 3 x) ∧ Tf 46 0 (-d) g (wI g 45 3 x) := by
  obtain ⟨h1, h2, h3⟩ := h
  have hn := h1.2.2.2.2.2.n46
  have hn4 := h1.n400
  have hT : Tf 46 0 (-d) g (wI g 45 3 x) := Tf.pos (by omega) (by omega)
  refine ⟨⟨h1.fr hT (h1.2.2.2.2.2.i (by decide) (by omega)) (Or.inl rfl), ?_, ?_⟩, hT⟩
  · rw [qI_wI, if_pos rfl, if_pos rfl]; exact hx
  · rw [qI_wI, if_pos rfl, if_neg (by decide)]; exact h3
theorem w_isBlank {f : Nat → Int32} {n p : Nat} {g : CS} : Ok (fX6_isBlank (pk1 f n p) g) (BC (p < n ∧ blk (f p)) g) := by
  unfold fX6_isBlank
  simp only [Ok_pif, Ok_some]
  rw [← pk1_P (P := blk) (f := f) (by unfold blk; decide)]
  unfold blk
  exact ⟨fun c => Or.inl ⟨Or.inl c, rfl⟩, fun c => ⟨fun d => Or.inl ⟨Or.inr d, rfl⟩, fun d => Or.inr ⟨fun q => q.elim c d, rfl⟩⟩⟩
/-- blanks are skipped -/
def SkP (f : Nat → Int32) (n p : Nat) (g t : CS) : Prop := Tr f n (rn blk f n p) t ∧ Tf 46 0 0 g t
theorem w_skip7 (f : Nat → Int32) (n p : Nat) (g0 : CS) : ∀ (z i : Nat) (x : Int32) (g : CS), x.toInt = i → p ≤ i → i ≤ 1000 → n - i < z → Tr f n i g → Tf 46 0 0 g0 g → (∀ j, p ≤ j → j < i → j < n ∧ blk (f j)) → Ok (fX6_skipBlanks_7 45 z x g) (SkP f n p g0) := by
  intro z
  induction z with
  | zero => intro i x g a b c; omega
  | succ z ih =>
    intro i x g hx hp hi hz hT hF hB
    have e := inc (x := x) (by omega) (by omega)
    have hn4 := hT.1.n400
    have fin : ¬ (i < n ∧ blk (f i)) → SkP f n p g0 g := fun hno => by
      have er : i = rn blk f n p := run.eq ⟨hp, hB, hno⟩
      unfold SkP
      rw [← er]
      exact ⟨hT, hF⟩
    rw [fX6_skipBlanks_7_s]
    generalize x + 1 = x' at e ⊢
    simp only [Ok_gd, Ok_ono]
    refine ⟨hT.1.1.1, 33, hT.1.1.2.1, hT.1.2.1.1, Ok.call (c_size hT.1.2.1) (fun r t ht => ?_)⟩
    cases ht
    rw [Ok_pif, t_le, hT.1.2.2.1, hx, Ok_some]
    refine ⟨fun c => fin (fun q => by omega), fun c => ?_⟩
    simp only [Ok_gd, Ok_ono]
    refine ⟨33, hT.1.1.2.1, hT.1.2.1.1, Ok.call (w_at hT.1 hx) (fun r t ht => ?_)⟩
    cases ht
    refine Ok.bc w_isBlank (fun hb => ?_) (fun hb => ?_)
    · rw [Ok_pif]
      refine ⟨fun q => absurd q (by decide), fun _ => ?_⟩
      simp only [Ok_nam]
      have e3 := inc (x := qI g 45 3) (by have := hT.2.1; omega) (by have := hT.2.1; omega)
      obtain ⟨g1, g2⟩ := hT.go (d := 1) (x := qI g 45 3 + 1) (by rw [e3, hT.2.1]; rfl)
      exact ih (i + 1) x' _ (by omega) (by omega) (by omega) (by omega) g1 ((hF.tr g2).le (by omega) (by omega)) (fun j j1 j2 => by
        rcases Nat.lt_or_ge j i with q | q
        · exact hB j j1 q
        · rw [show j = i by omega]; exact hb)
    · rw [Ok_pif, Ok_some]
      exact ⟨fun _ => fin hb, fun q => absurd rfl q⟩
theorem w_skip {f : Nat → Int32} {n p : Nat} {g : CS} (h : Tr f n p g) (hp : p ≤ n) : Ok (fX6_skipBlanks 45 g) (SkP f n p g) := by
  have hn4 := h.1.n400
  unfold fX6_skipBlanks
  simp only [Ok_gd, Ok_nam]
  exact ⟨h.1.1.1, w_skip7 f n p g fuel p _ g h.2.1 (Nat.le_refl _) (by omega) (by unfold fuel; omega) h Tf.rf (fun j j1 j2 => absurd j1 (Nat.not_le.mpr j2))⟩
