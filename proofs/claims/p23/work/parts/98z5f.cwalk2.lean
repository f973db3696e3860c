theorem m_share {g : CS} {r : RS} {H F n H' F' n' : Nat} (h : EqF g H r F n) (h' : EqF g H' r F' n') : Ok (fX0_sharesGroup H (some H') g) (BC (gF r 2 F ≠ 0 ∧ gF r 2 F = gF r 2 F') g) := by
  unfold fX0_sharesGroup
  rw [Ok_gd]
  refine ⟨h.1.1, ?_⟩
  simp only [Ok_pif, Ok_some, Ok_ono, Ok_gd]
  rw [h.2.2.2.1]
  refine ⟨fun c => Or.inr ⟨fun q => q.1 c, rfl⟩, fun c => ⟨H', rfl, h'.1.1, ?_⟩⟩
  rw [h'.2.2.2.1]
  exact ⟨fun d => Or.inl ⟨⟨c, d⟩, rfl⟩, fun d => Or.inr ⟨fun q => d q.2, rfl⟩⟩
def mtK (r : RS) (a b n k : Nat) : Prop := hasN r b k ∧ gF r 2 (31 * b + k) = gF r 2 (31 * b + n) ∧ hasN r a k ∧ (gF r 2 (31 * a + k) = 0 ∨ gF r 2 (31 * a + k) ≠ gF r 2 (31 * a + n))
theorem m_crowd18 (g : CS) (r : RS) (H1 m1 m2 h a b n : Nat) (h1 : EqF g H1 r (31 * a + n) n) (hm1 : EqM g m1 r a) (hm2 : EqM g m2 r b) (hh : EqF g h r (31 * b + n) n) (hn : n ≤ 30) : ∀ (z i : Nat) (x : Int32), x.toInt = i → 1 ≤ i → i ≤ 31 → 31 - i < z → (∀ k, 1 ≤ k → k < i → ¬ (gF r 2 (31 * b + n) ≠ 0 ∧ mtK r a b n k)) → Ok (fX7_isCrowded_18 z (some H1) (some m1) (some m2) (some h) x g) (BC (gF r 2 (31 * b + n) ≠ 0 ∧ ∃ k, 1 ≤ k ∧ k < n ∧ mtK r a b n k) g) := by
  intro z
  induction z with
  | zero => intro i x h1 h2 h3; omega
  | succ z ih =>
    intro i x hx hi1 hi hz hA
    have e := inc (x := x) (by omega) (by omega)
    have xn : x.toNatClampNeg = i := by rw [t_nat]; omega
    have hk1 : qk g m1 = 4 := by obtain ⟨ar, -, q, -⟩ := hm1; exact q.1
    have hk2 : qk g m2 = 4 := by obtain ⟨ar, -, q, -⟩ := hm2; exact q.1
    rw [fX7_isCrowded_18_s]
    generalize x + 1 = x' at e ⊢
    simp only [Ok_ono, Ok_gd]
    refine ⟨H1, rfl, h1.1.1, ?_⟩
    rw [Ok_pif, t_le, h1.2.1, hx, Ok_some]
    refine ⟨fun c => Or.inr ⟨fun q => ?_, rfl⟩, fun c => ?_⟩
    · obtain ⟨q0, k, k1, k2, k3⟩ := q
      exact hA k k1 (by omega) ⟨q0, k3⟩
    have go : ¬ (gF r 2 (31 * b + n) ≠ 0 ∧ mtK r a b n i) → Ok (fX7_isCrowded_18 z (some H1) (some m1) (some m2) (some h) x' g) (BC (gF r 2 (31 * b + n) ≠ 0 ∧ ∃ k, 1 ≤ k ∧ k < n ∧ mtK r a b n k) g) := fun hno => ih (i + 1) x' (by omega) (by omega) (by omega) (by omega) (fun k k1 k2 => by
      by_cases ck : k = i
      · rw [ck]; exact hno
      · exact hA k k1 (by omega))
    have kn2 := m_knownAt (n := x) hm2
    have kn1 := m_knownAt (n := x) hm1
    rw [xn] at kn1 kn2
    simp only [Ok_ono, Ok_gd]
    refine ⟨m2, rfl, hk2, Ok.same kn2 (fun o ho => ?_)⟩
    simp only [Ok_ono, Ok_gd]
    refine ⟨m1, rfl, hk1, Ok.same kn1 (fun o' ho' => ?_)⟩
    simp only [Ok_pif, Ok_nam, Ok_ono, Ok_gd]
    refine ⟨fun c1 => go (fun q => ho.1.mpr q.2.1 c1), fun c1 => ⟨fun c2 => go (fun q => ho'.1.mpr q.2.2.2.1 c2), fun c2 => ⟨h, rfl, hh.1.1, ?_⟩⟩⟩
    obtain ⟨f, e1⟩ := Option.ne_none_iff_exists'.mp c1
    obtain ⟨f', e2⟩ := Option.ne_none_iff_exists'.mp c2
    subst e1
    subst e2
    refine Ok.bc (m_share hh (ho.2 f rfl)) (fun s1 => ?_) (fun s1 => ?_)
    · rw [pif_neg (by decide)]
      refine Ok.bc (m_share h1 (ho'.2 f' rfl)) (fun s2 => ?_) (fun s2 => ?_)
      · rw [pif_neg (by decide), Ok_nam]
        refine go (fun q => ?_)
        rcases q.2.2.2.2 with w | w
        · exact s2.1 (s2.2.trans w)
        · exact w s2.2.symm
      · rw [pif_pos rfl, Ok_some]
        refine Or.inl ⟨⟨s1.1, i, hi1, by omega, ho.1.mp c1, s1.2.symm, ho'.1.mp c2, ?_⟩, rfl⟩
        by_cases w : gF r 2 (31 * a + i) = gF r 2 (31 * a + n)
        · exact Or.inl (Classical.byContradiction (fun v => s2 ⟨fun y => v (w.trans y), w.symm⟩))
        · exact Or.inr w
    · rw [pif_pos rfl, Ok_nam]
      exact go (fun q => s1 ⟨q.1, q.2.2.1.symm⟩)
theorem m_crowd {g : CS} {r : RS} {H1 m1 m2 a b n : Nat} (h1 : EqF g H1 r (31 * a + n) n) (hm1 : EqM g m1 r a) (hm2 : EqM g m2 r b) (hn : n ≤ 30) : Ok (fX7_isCrowded (some H1) (some m1) (some m2) g) (BC (wMat r a b n) g) := by
  have hk2 : qk g m2 = 4 := by obtain ⟨ar, -, q, -⟩ := hm2; exact q.1
  have xn : (qI g H1 0).toNatClampNeg = n := by rw [t_nat, h1.2.1]; omega
  have kn := m_knownAt (n := qI g H1 0) hm2
  rw [xn] at kn
  unfold fX7_isCrowded wMat
  simp only [Ok_ono, Ok_gd]
  refine ⟨H1, rfl, h1.1.1, m2, rfl, hk2, Ok.same kn (fun o ho => ?_)⟩
  by_cases c : o = none
  · rw [pif_pos c, Ok_some]
    exact Or.inr ⟨fun q => ho.1.mpr q.1 c, rfl⟩
  · rw [pif_neg c]
    obtain ⟨f, e⟩ := Option.ne_none_iff_exists'.mp c
    subst e
    exact (m_crowd18 g r H1 m1 m2 f a b n h1 hm1 hm2 (ho.2 f rfl) hn fuel 1 1 rfl (by omega) (by omega) (by unfold fuel; omega) (fun k k1 k2 => by omega)).mono (fun q hq => hq.iff ⟨fun w => ⟨ho.1.mp c, w⟩, fun w => w.2⟩)
/-! what was seen -/
def WkC (g : CS) (r : RS) : Prop := ∀ a b c d, a < 8 → b < 8 → c < 8 → d < 2 → qI g 71 (plA a b c d) = 0 ∨ (qI g 71 (plA a b c d) = 2 ∧ wBrk r (a + 1) a b c (d = 0)) ∨ (qI g 71 (plA a b c d) = 1 ∧ ¬ wBrk r (a + 1) a b c (d = 0) ∧ tl3 r a b c)
/-- what walks rest on -/
def IW (g : CS) (r : RS) : Prop := (CI g ∧ MkI r ∧ ToE g r ∧ MkE g r) ∧ WkC g r
theorem IW.f {g t : CS} {r : RS} (h : IW g r) (hF : Cf [71] g t) (hW : WkC t r) : IW t r := by
  obtain ⟨⟨h1, h2, h3, h4⟩, -⟩ := h
  exact ⟨⟨h1.ob hF (by decide), h2, fun j hj => by rw [hF.p]; exact h3 j hj, h4.cf (S := [71]) (by simp) hF⟩, hW⟩
def Vb (c : Prop) (x : Int32) : Prop := (x = 1 ∧ c) ∨ (x = 0 ∧ ¬ c)
theorem Vb.iff {c c' : Prop} {x : Int32} (h : Vb c x) (hi : c ↔ c') : Vb c' x := by
  unfold Vb at *
  rw [← hi]
  exact h
/-- what breaks() leaves -/
def BrP (r : RS) (g : CS) (c : Prop) (q : Int32 × CS) : Prop := Cf [71] g q.2 ∧ WkC q.2 r ∧ Vb c q.1
theorem w_mk {m : Int32} {g : CS} {r : RS} (h : IW g r) : Ok (fX8_makeOf (some 44) m g) (SmP g (fun o => (o ≠ none ↔ mkN r m) ∧ ∀ x, o = some x → EqM g x r m.toNatClampNeg)) := by
  obtain ⟨⟨h1, h2, h4, hE⟩, -⟩ := h
  obtain ⟨k1, k2, k3⟩ := h1.2.2.1
  unfold fX8_makeOf mkN
  simp only [Ok_pif, Ok_some, Ok_gd, Ok_ono]
  rw [t_lt, show (0 : Int32).toInt = 0 from rfl]
  refine ⟨fun c => ⟨rfl, ⟨fun q => absurd rfl q, fun q => by omega⟩, fun x hx => by cases hx⟩, fun c => ⟨44, rfl, k1, fun d => ⟨rfl, ⟨fun q => absurd rfl q, fun q => ?_⟩, fun x hx => by cases hx⟩, fun d => ?_⟩⟩
  · rw [t_le, e_nI (by rw [k2]; decide), k2] at d
    have d : (8 : Int) ≤ m.toInt := d
    omega
  · rw [t_le, e_nI (by rw [k2]; decide), k2] at d
    have d : ¬ (8 : Int) ≤ m.toInt := d
    have hm : m.toNatClampNeg < 8 := by rw [t_nat]; omega
    have h44 := h4 _ hm
    exact ⟨by rw [t_in, k2]; omega, rfl, ⟨fun q => ⟨by omega, by omega, fun w => q (h44.mpr w)⟩, fun q w => q.2.2 (h44.mp w)⟩, fun x hx => hE _ hm x hx⟩
