/-! field, plain: answers alike -/
def isF (r : RS) (m n : Int32) : Prop := mkN r m ∧ 0 < n.toInt ∧ n.toInt < 31 ∧ gF r 8 (31 * m.toNatClampNeg + n.toNatClampNeg) ≠ 0
theorem m_makeOf {m : Int32} {g : CS} {r : RS} (h : IM g r) : Ok (fX8_makeOf (some 44) m g) (SmP g (fun o => (o ≠ none ↔ mkN r m) ∧ ∀ x, o = some x → MkO g x ∧ EqM g x r m.toNatClampNeg)) := by
  obtain ⟨⟨h1, h2, h3, h4, h5⟩, hE⟩ := h
  obtain ⟨k1, k2, k3⟩ := h1.2.2.1
  unfold fX8_makeOf mkN
  simp only [Ok_pif, Ok_some, Ok_gd, Ok_ono]
  rw [t_lt, show (0 : Int32).toInt = 0 from rfl]
  refine ⟨fun c => ⟨rfl, ⟨fun q => absurd rfl q, fun q => by omega⟩, fun x hx => by cases hx⟩, fun c => ⟨44, rfl, k1, fun d => ⟨rfl, ⟨fun q => absurd rfl q, fun q => ?_⟩, fun x hx => by cases hx⟩, fun d => ?_⟩⟩
  · rw [t_le, e_nI (by rw [k2]; decide), k2] at d
    have d : (8 : Int) ≤ m.toInt := d
    omega
  · rw [t_le, e_nI (by rw [k2]; decide), k2] at d
    have d : ¬ (8 : Int) ≤ m.toInt := d
    have hm : m.toNatClampNeg < 8 := by rw [t_nat]; omega
    have h44 := h4 _ hm
    exact ⟨by rw [t_in, k2]; omega, rfl, ⟨fun q => ⟨by omega, by omega, fun w => q (h44.mpr w)⟩, fun q w => q.2.2 (h44.mp w)⟩, fun x hx => ⟨k3 _ hm x hx, hE _ hm x hx⟩⟩
theorem m_fieldAt {g : CS} {r : RS} {mk j : Nat} {n : Int32} (h : EqM g mk r j) : Ok (fX1_fieldAt mk n g) (SmP g (fun o => (o ≠ none ↔ 0 < n.toInt ∧ n.toInt < 31 ∧ gF r 8 (31 * j + n.toNatClampNeg) ≠ 0) ∧ ∀ x, o = some x → EqF g x r (31 * j + n.toNatClampNeg) n.toNatClampNeg)) := by
  obtain ⟨ar, h1, h2, h3, h4, h5, h6, h7⟩ := h
  unfold fX1_fieldAt
  simp only [Ok_pif, Ok_some, Ok_gd, Ok_ono]
  rw [t_lt, show (0 : Int32).toInt = 0 from rfl]
  refine ⟨fun c => ⟨rfl, ⟨fun q => absurd rfl q, fun q => by omega⟩, fun x hx => by cases hx⟩, fun c => ⟨h2.1, ar, h1, h3.1, fun d => ⟨rfl, ⟨fun q => absurd rfl q, fun q => ?_⟩, fun x hx => by cases hx⟩, fun d => ?_⟩⟩
  · rw [t_le, e_nI (by rw [h4]; decide), h4] at d
    have d : (31 : Int) ≤ n.toInt := d
    omega
  · rw [t_le, e_nI (by rw [h4]; decide), h4] at d
    have d : ¬ (31 : Int) ≤ n.toInt := d
    have hn : n.toNatClampNeg < 31 := by rw [t_nat]; omega
    have h8 := h5 _ hn
    refine ⟨by rw [t_in, h4]; omega, rfl, ⟨fun q => ⟨?_, by omega, h8.mp q⟩, fun q => h8.mpr q.2.2⟩, fun x hx => h7 _ x hn hx⟩
    rcases Int.lt_or_le 0 n.toInt with w | w
    · exact w
    · exfalso
      have e0 : n.toNatClampNeg = 0 := by rw [t_nat]; omega
      have := h8.mp q
      rw [e0, Nat.add_zero] at this
      exact this h6
theorem m_fieldOf {m n : Int32} {g : CS} {r : RS} (h : IM g r) : Ok (fX8_fieldOf 32 m n g) (SmP g (fun o => (o ≠ none ↔ isF r m n) ∧ ∀ x, o = some x → EqF g x r (31 * m.toNatClampNeg + n.toNatClampNeg) n.toNatClampNeg)) := by
  unfold fX8_fieldOf
  rw [Ok_gd, h.1.1.1.2.2.2.1]
  refine ⟨h.1.1.1.1, Ok.same (m_makeOf h) (fun o ho => ?_)⟩
  simp only [Ok_pif, Ok_some, Ok_ono, Ok_gd]
  refine ⟨fun c => ⟨rfl, ⟨fun q => absurd rfl q, fun q => absurd c (ho.1.mpr q.1)⟩, fun x hx => by cases hx⟩, fun c => ?_⟩
  obtain ⟨f, e⟩ := Option.ne_none_iff_exists'.mp c
  have hm := ho.1.mp c
  refine ⟨f, e, (ho.2 f e).1.1, Ok.same (m_fieldAt (ho.2 f e).2) (fun o2 ho2 => ?_)⟩
  rw [Ok_some]
  exact ⟨rfl, ⟨fun q => ⟨hm, ho2.1.mp q⟩, fun q => ho2.1.mpr q.2⟩, ho2.2⟩
/-- what field() says of a field -/
noncomputable def Ans (r : RS) (F : Nat) (w : Int32) : Int32 := pif (w = 0) (gF r 1 F) (pif (w = 1) (gF r 2 F) (pif (w = 2) (pif (gF r 1 F = 6) (gF r 3 F) (-1)) (pif (w = 3) (gF r 4 F) (-1))))
theorem m_field {m n w : Int32} {g : CS} {r : RS} (h : IM g r) : Ok (fX8_field 32 m n w g) (fun q => q = (pif (isF r m n) (Ans r (31 * m.toNatClampNeg + n.toNatClampNeg) w) (-1), g)) := by
  unfold fX8_field
  rw [Ok_gd]
  refine ⟨h.1.1.1.1, Ok.same (m_fieldOf h) (fun o ho => ?_)⟩
  by_cases c : isF r m n
  · have c1 := ho.1.mpr c
    obtain ⟨x, e⟩ := Option.ne_none_iff_exists'.mp c1
    obtain ⟨a1, a2, a3, a4, a5, a6, ⟨s, fn, a7, a8, a8'⟩, -, -⟩ := ho.2 x e
    rw [pif_neg c1, pif_pos c]
    unfold Ans
    by_cases w0 : w = 0
    · rw [pif_pos w0, pif_pos w0]
      simp only [Ok_ono, Ok_gd, Ok_some]
      exact ⟨x, e, a1.1, by rw [a3.1]⟩
    rw [pif_neg w0, pif_neg w0]
    by_cases w1 : w = 1
    · rw [pif_pos w1, pif_pos w1]
      simp only [Ok_ono, Ok_gd, Ok_some]
      exact ⟨x, e, a1.1, by rw [a4]⟩
    rw [pif_neg w1, pif_neg w1]
    by_cases w2 : w = 2
    · rw [pif_pos w2, pif_pos w2]
      simp only [Ok_ono, Ok_gd, Ok_some]
      refine ⟨x, e, a1.1, ?_⟩
      by_cases c6 : gF r 1 (31 * m.toNatClampNeg + n.toNatClampNeg) = 6
      · rw [pif_pos c6, a5 c6]
      · rw [pif_neg c6, a6 c6]
    rw [pif_neg w2, pif_neg w2]
    by_cases w3 : w = 3
    · rw [pif_pos w3, pif_pos w3]
      simp only [Ok_ono, Ok_gd]
      refine ⟨x, e, a1.1, s, a7, a8.1.1, Ok.call (w_len a8) (fun l t ht => ?_)⟩
      obtain ⟨l1, l2⟩ := ht
      have l1 : l.toInt = _ := l1
      have l2 : t = g := l2
      rw [Ok_some, l2]
      congr 1
      rw [t_eq, l1]
      omega
    rw [pif_neg w3, pif_neg w3, Ok_some]
  · have c1 : o = none := Classical.byContradiction (fun q => c (ho.1.mp q))
    rw [pif_pos c1, pif_neg c, Ok_some]
theorem r_field2 {m n w : Int32} {st : RS} : Ok (x9_field_ m n w st) (fun q => q = (pif (isF st m n) (Ans st (31 * m.toNatClampNeg + n.toNatClampNeg) w) (-1), st)) := by
  unfold x9_field_
  refine Ok.bp r_isField (fun hm => ?_) (fun hm => ?_)
  · have hF : isF st m n := hm
    obtain ⟨hm, h3, h4, h5⟩ := hm
    have h1 := hm.1
    have h2 := hm.2.1
    have e := i31 h1 h2 (show 0 ≤ n.toInt by omega) (by omega)
    have en : (31 * m + n).toNatClampNeg = 31 * m.toNatClampNeg + n.toNatClampNeg := by rw [t_nat, t_nat, t_nat]; omega
    rw [pif_neg (by decide), pif_pos hF]
    unfold Ans
    simp only [Ok_nam]
    by_cases w0 : w = 0
    · rw [pif_pos w0, pif_pos w0]
      simp only [Ok_gd, Ok_some, t_in, e, en]
      exact ⟨by omega, trivial⟩
    rw [pif_neg w0, pif_neg w0]
    by_cases w1 : w = 1
    · rw [pif_pos w1, pif_pos w1]
      simp only [Ok_gd, Ok_some, t_in, e, en]
      exact ⟨by omega, trivial⟩
    rw [pif_neg w1, pif_neg w1]
    by_cases w2 : w = 2
    · rw [pif_pos w2, pif_pos w2]
      simp only [Ok_gd, Ok_pif, Ok_some, t_in, e, en]
      exact ⟨by omega, fun c => ⟨by omega, by rw [pif_pos c]⟩, fun c => by rw [pif_neg c]⟩
    rw [pif_neg w2, pif_neg w2]
    by_cases w3 : w = 3
    · rw [pif_pos w3, pif_pos w3]
      simp only [Ok_gd, Ok_some, t_in, e, en]
      exact ⟨by omega, trivial⟩
    rw [pif_neg w3, pif_neg w3, Ok_some]
  · have hF : ¬ isF st m n := hm
    rw [pif_pos rfl, pif_neg hF, Ok_some]
/-- what plain() says of a field -/
noncomputable def Pln (r : RS) (F : Nat) : Int64 := pif (gF r 1 F = 0 ∨ gF r 1 F = 6) 0 (gL r 6 F)
theorem m_plainN {g : CS} {r : RS} {H F n : Nat} (h : EqF g H r F n) : Ok (fX0_plainNumber H g) (fun q => q = (Pln r F, g)) := by
  obtain ⟨a1, a2, a3, a4, a5, a6, -, ⟨s, l, b1, b2, b3, b4⟩, a9, a10⟩ := h
  unfold fX0_plainNumber Pln
  rw [Ok_gd, a3.1]
  refine ⟨a1.1, ?_⟩
  by_cases c5 : gF r 1 F = 5
  · have n0 : ¬ (gF r 1 F = 0 ∨ gF r 1 F = 6) := by rw [c5]; decide
    rw [pif_pos c5, pif_neg n0]
    simp only [Ok_ono, Ok_gd]
    refine ⟨s, b1, b2.1.1, Ok.call (w_len b2) (fun x t ht => ?_)⟩
    obtain ⟨l1, l2⟩ := ht
    have l1 : x.toInt = l := l1
    have l2 : t = g := l2
    rw [Ok_some, l2]
    congr 1
    rw [j_eq, j_of, l1, (b3 c5).1]
  · rw [pif_neg c5, Ok_some]
    congr 1
    by_cases c0 : gF r 1 F = 0
    · rw [pif_pos (Or.inl c0), j_eq, a9 (Or.inr c0)]; rfl
    · rw [(a10 c5 c0).1]
      by_cases c6 : gF r 1 F = 6
      · rw [pif_pos (Or.inr c6), j_eq, (a10 c5 c0).2 c6]; rfl
      · rw [pif_neg (fun q => q.elim c0 c6)]
theorem m_plain {m n : Int32} {g : CS} {r : RS} (h : IM g r) : Ok (fX8_plain 32 m n g) (fun q => q = (pif (isF r m n) (Pln r (31 * m.toNatClampNeg + n.toNatClampNeg)) 0, g)) := by
  unfold fX8_plain
  rw [Ok_gd]
  refine ⟨h.1.1.1.1, Ok.same (m_fieldOf h) (fun o ho => ?_)⟩
  by_cases c : isF r m n
  · have c1 := ho.1.mpr c
    obtain ⟨x, e⟩ := Option.ne_none_iff_exists'.mp c1
    have hx := ho.2 x e
    rw [pif_neg c1, pif_pos c]
    simp only [Ok_ono, Ok_gd]
    refine ⟨x, e, hx.1.1, Ok.call (m_plainN hx) (fun v t ht => ?_)⟩
    cases ht
    rw [Ok_some]
  · have c1 : o = none := Classical.byContradiction (fun q => c (ho.1.mp q))
    rw [pif_pos c1, pif_neg c, Ok_some]
theorem r_plain2 {m n : Int32} {st : RS} : Ok (x9_plain m n st) (fun q => q = (pif (isF st m n) (Pln st (31 * m.toNatClampNeg + n.toNatClampNeg)) 0, st)) := by
  unfold x9_plain
  refine Ok.bp r_isField (fun hm => ?_) (fun hm => ?_)
  · have hF : isF st m n := hm
    obtain ⟨hm, h3, h4, h5⟩ := hm
    have h1 := hm.1
    have h2 := hm.2.1
    have e := i31 h1 h2 (show 0 ≤ n.toInt by omega) (by omega)
    have en : (31 * m + n).toNatClampNeg = 31 * m.toNatClampNeg + n.toNatClampNeg := by rw [t_nat, t_nat, t_nat]; omega
    have nn : (n.toNatClampNeg : Int) = n.toInt := by rw [t_nat]; omega
    rw [pif_neg (by decide), pif_pos hF]
    unfold Pln
    refine Ok.bp (r_has h1 h2) (fun hy => ?_) (fun hn => ?_)
    · rw [pif_neg (by decide)]
      simp only [Ok_gd, Ok_pif, Ok_some, t_in, e, en]
      exact ⟨by omega, fun c => by rw [pif_pos (Or.inr c)], fun c => ⟨by omega, by rw [pif_neg (fun q => q.elim hy.2.2.2 c)]⟩⟩
    · rw [pif_pos rfl, Ok_some, pif_pos (Or.inl (Classical.byContradiction (fun q => hn ⟨by omega, by omega, h5, q⟩)))]
  · have hF : ¬ isF st m n := hm
    rw [pif_pos rfl, pif_neg hF, Ok_some]
