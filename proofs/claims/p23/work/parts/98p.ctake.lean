/-- a word is taken -/
def TwP (f : Nat → Int32) (n p : Nat) (g : CS) (q : Option Nat × CS) : Prop := ∃ s, q.1 = some s ∧ (qn g ≤ s ∧ s < qn q.2) ∧ Tr f n (rn ltr f n p) q.2 ∧ Tf 46 2 4 g q.2 ∧ StC f p (rn ltr f n p - p) s q.2
theorem StC.of {f h : Nat → Int32} {a b l s : Nat} {g : CS} (hS : StC h b l s g) (he : ∀ j, j < l → h (b + j) = f (a + j)) : StC f a l s g := by
  obtain ⟨h1, c, h2, h3, h4, h5⟩ := hS
  exact ⟨h1, c, h2, h3, fun j hj => (h4 j hj).trans (he j hj), h5⟩
theorem Tr.e {f : Nat → Int32} {n p : Nat} {a b : Int} {g t : CS} (h : Tr f n p g) (hT : Tf 46 a b g t) (hL : LwI t) (e : qI t 45 = qI g 45) : Tr f n p t := ⟨h.1.fr hT hL (Or.inl rfl), by rw [e]; exact h.2.1, by rw [e]; exact h.2.2⟩
theorem w_word13 (f : Nat → Int32) (n p : Nat) (g0 : CS) (hp : p ≤ n) : ∀ (z k : Nat) (x : Int32) (g : CS), x.toInt = (p + k : Nat) → p + k ≤ n → n - (p + k) < z → Tr f n p g → Tf 46 0 0 g0 g → (qI g 46 3).toInt = k → (∀ j, j < k → qI g (lb g) j = f (p + j)) → (∀ j, p ≤ j → j < p + k → j < n ∧ ltr (f j)) → Ok (fX6_takeWord_13 45 z x g) (TwP f n p g0) := by
  intro z
  induction z with
  | zero => intro k x g a b c; omega
  | succ z ih =>
    intro k x g hx hk hz hT hF hc hB hA
    have hn4 := hT.1.n400
    have hL := hT.1.2.2.2.2.2
    have e := inc (x := x) (by omega) (by omega)
    have hpos := hT.2.1
    have fin : ¬ (p + k < n ∧ ltr (f (p + k))) → Ok (fX6_takeWord_55 45 g) (TwP f n p g0) := fun hno => by
      have er : p + k = rn ltr f n p := run.eq ⟨by omega, hA, hno⟩
      unfold fX6_takeWord_55 fJ4_length_8abf5 fJ5_length_8abf5
      simp only [Ok_gd, Ok_ono]
      refine ⟨hT.1.1.1, 46, hT.1.1.2.2.2, hL.1, Ok.call (Q := fun q => q = (qI g 46 3, g)) ?_ (fun r t ht => ?_)⟩
      · rw [Ok_gd]
        exact ⟨hL.1, Ok.call (Q := fun q => q = (qI g 46 3, g)) (by rw [Ok_gd, Ok_some]; exact ⟨hL.1, rfl⟩) (fun r t ht => by rw [Ok_some]; exact ht)⟩
      · cases ht
        unfold fX6_takeWord_67
        simp only [Ok_gd, Ok_nam, Ok_ono]
        obtain ⟨g1, g2⟩ := hT.go (d := k) (x := qI g 45 3 + qI g 46 3) (by rw [t_add (by omega) (by omega)]; omega)
        have hn := hL.n46
        have eB : ∀ j, j < k → qI (wI g 45 3 (qI g 45 3 + qI g 46 3)) (lb (wI g 45 3 (qI g 45 3 + qI g 46 3))) j = f (p + j) := fun j hj => by
          show qI (wI g 45 3 (qI g 45 3 + qI g 46 3)) (lb g) j = _
          rw [qI_wo (by omega)]
          exact hB j hj
        have eC : (qI (wI g 45 3 (qI g 45 3 + qI g 46 3)) 46 3).toInt = k := by rw [qI_wo (by decide)]; exact hc
        have g0n := hF.1.1
        have gn : qn (wI g 45 3 (qI g 45 3 + qI g 46 3)) = qn g := rfl
        generalize wI g 45 3 (qI g 45 3 + qI g 46 3) = u at *
        refine ⟨hT.1.1.1, 46, g1.1.1.2.2.2, g1.1.2.2.2.2.2.1, Ok.call (c_toString g1.1.2.2.2.2.2 eC) (fun r t ht => ?_)⟩
        obtain ⟨t1, t2, t3, t4, t5, t6⟩ := ht
        have t1 : r = some (qn u) := t1
        unfold fX6_takeWord_78
        rw [Ok_some, t1]
        refine ⟨qn u, rfl, ⟨by omega, t6⟩, ?_, ?_, ?_⟩
        · rw [← er]; exact g1.e t3 t2 t4
        · exact ((hF.tr g2).tr t3).le (by omega) (by omega)
        · rw [← er, Nat.add_sub_cancel_left]
          exact t5.of (fun j hj => by rw [Nat.zero_add]; exact eB j hj)
    rw [fX6_takeWord_13_s]
    unfold fX6_takeWord_21 fX6_takeWord_29 fX6_takeWord_44 fX6_takeWord_48
    generalize x + 1 = x' at e ⊢
    simp only [Ok_gd, Ok_ono]
    refine ⟨hT.1.1.1, 33, hT.1.1.2.1, hT.1.2.1.1, Ok.call (c_size hT.1.2.1) (fun r t ht => ?_)⟩
    cases ht
    rw [Ok_pif, t_le, hT.1.2.2.1, hx]
    refine ⟨fun c => fin (fun q => by omega), fun c => ?_⟩
    rw [Ok_gd]
    refine ⟨hT.1.1.1, Ok.bc (w_isLetter hT.1 hx) (fun hl => ?_) (fun hl => ?_)⟩
    · rw [Ok_pif]
      refine ⟨fun q => absurd q (by decide), fun _ => ?_⟩
      simp only [Ok_gd, Ok_ono]
      refine ⟨hT.1.1.1, 33, hT.1.1.2.1, hT.1.2.1.1, Ok.call (w_at hT.1 hx) (fun r t ht => ?_)⟩
      cases ht
      have ep : pk1 f n (p + k) = f (p + k) := if_pos hl.1
      simp only [ep, Ok_gd, Ok_ono]
      refine ⟨46, hT.1.1.2.2.2, hL.1, Ok.call (c_letter hL hc (by omega) (by have := hl.2.1; omega) (by have := hl.2.2; omega)) (fun r t ht => ?_)⟩
      obtain ⟨t1, t2, t3, t4, t5, t6⟩ := ht
      rw [Ok_nam]
      refine ih (k + 1) x' t (by omega) (by omega) (by omega) (hT.e t2 t1 t3) ((hF.tr t2).le (by omega) (by omega)) t4 (fun j hj => ?_) (fun j j1 j2 => ?_)
      · by_cases cj : j = k
        · rw [cj]; exact t6
        · exact (t5 j (by omega)).trans (hB j (by omega))
      · rcases Nat.lt_or_ge j (p + k) with q | q
        · exact hA j j1 q
        · rw [show j = p + k by omega]; exact hl
    · rw [Ok_pif]
      exact ⟨fun _ => fin hl, fun q => absurd rfl q⟩
theorem w_takeWord {f : Nat → Int32} {n p : Nat} {g : CS} (h : Tr f n p g) (hp : p ≤ n) : Ok (fX6_takeWord 45 g) (TwP f n p g) := by
  have hL := h.1.2.2.2.2.2
  have hn4 := h.1.n400
  unfold fX6_takeWord fX6_takeWord_8
  simp only [Ok_gd, Ok_ono]
  refine ⟨h.1.1.1, 46, h.1.1.2.2.2, hL.1, Ok.callv (c_setLength hL) (fun t ht => ?_)⟩
  obtain ⟨t1, t2, t3, t4⟩ := ht
  have hT := h.e t2 t1 t4
  simp only [Ok_gd, Ok_nam]
  exact ⟨hT.1.1.1, w_word13 f n p g hp fuel 0 _ t hT.2.1 (by omega) (by unfold fuel; omega) hT t2 (by rw [t3]; rfl) (fun j hj => absurd hj (by omega)) (fun j j1 j2 => by omega)⟩
/-! comparing words -/
theorem w_eq9 (a b : Nat) (g : CS) (ka : qk g a = 22) (kb : qk g b = 22) (hl : ql g b = ql g a) (hb : ql g a ≤ 1000) : ∀ (z i : Nat) (x : Int32), x.toInt = i → i ≤ 1000 → 1000 - i < z → (∀ j, j < i → j < ql g a → qI g a j = qI g b j) → Ok (fJ1_equals_b5fdf_9 z (some a) (some b) x g) (BC (∀ j, j < ql g a → qI g a j = qI g b j) g) := by
  intro z
  induction z with
  | zero => intro i x h1 h2 h3; omega
  | succ z ih =>
    intro i x hx hi hz hA
    have e := inc (x := x) (by omega) (by omega)
    have xn : x.toNatClampNeg = i := by rw [t_nat]; omega
    rw [fJ1_equals_b5fdf_9_s]
    generalize x + 1 = x' at e ⊢
    simp only [Ok_gd, Ok_ono, Ok_pif, Ok_some, Ok_nam, xn]
    refine ⟨a, rfl, ka, fun c => ?_, fun c => ?_⟩
    · rw [t_le, e_nI (by omega)] at c
      exact Or.inl ⟨fun j hj => hA j (by omega) hj, rfl⟩
    rw [t_le, e_nI (by omega)] at c
    rw [t_in]
    refine ⟨⟨by omega, by omega⟩, b, rfl, kb, ⟨by rw [t_in, hl]; omega, by omega⟩, fun ce => ih (i + 1) x' (by omega) (by omega) (by omega) (fun j j1 j2 => ?_), fun ce => Or.inr ⟨fun q => ce (q i (by omega)), rfl⟩⟩
    by_cases cj : j = i
    · rw [cj]; exact ce
    · exact hA j (by omega) j2
theorem w_equals {f h : Nat → Int32} {a b la lb' s t : Nat} {g : CS} (hs : StC f a la s g) (ht : StC h b lb' t g) : Ok (fJ0_equals_9ea2d s (some t) g) (BC (la = lb' ∧ ∀ j, j < la → f (a + j) = h (b + j)) g) := by
  obtain ⟨⟨s1, s2, s3, c0, s4, s5, s6, s7⟩, c, c1, c2, c3, c4⟩ := hs
  obtain ⟨⟨t1, t2, t3, d0, t4, t5, t6, t7⟩, d, d1, d2, d3, d4⟩ := ht
  have e1 : c0 = c := by rw [s4] at c1; cases c1; rfl
  have e2 : d0 = d := by rw [t4] at d1; cases d1; rfl
  subst e1
  subst e2
  have h36 : Ok (fJ0_equals_9ea2d_36 s (some t) g) (BC (la = lb' ∧ ∀ j, j < la → f (a + j) = h (b + j)) g) := by
    unfold fJ0_equals_9ea2d_36
    simp only [Ok_gd, Ok_ono]
    refine ⟨s1, t, rfl, t1, ?_⟩
    rw [s4, t4]
    refine Ok.bc (c := la = lb' ∧ ∀ j, j < la → f (a + j) = h (b + j)) (g := g) ?_ (fun hy => ?_) (fun hn => ?_)
    · unfold fJ1_equals_b5fdf
      simp only [Ok_gd, Ok_ono, Ok_pif, Ok_some]
      refine ⟨c0, rfl, s5, d0, rfl, t5, fun hl => ?_, fun hl => Or.inr ⟨fun q => hl ?_, rfl⟩⟩
      · rw [t_eq, e_nI (by omega), e_nI (by omega)] at hl
        refine (w_eq9 c0 d0 g s5 t5 (by omega) s6 fuel 0 0 rfl (by omega) (by unfold fuel; omega) (fun j hj => absurd hj (by omega))).mono (fun q hq => ?_)
        have hi : (∀ j, j < ql g c0 → qI g c0 j = qI g d0 j) ↔ (la = lb' ∧ ∀ j, j < la → f (a + j) = h (b + j)) := by
          rw [c2] at hl ⊢
          constructor
          · exact fun q => ⟨by omega, fun j hj => by rw [← c3 j hj, ← d3 j (by omega)]; exact q j hj⟩
          · exact fun q j hj => by rw [c3 j hj, d3 j (by omega)]; exact q.2 j hj
        unfold BC at *
        rw [← hi]
        exact hq
      · rw [c2, d2, q.1]
    · simp only [Ok_pif, Ok_some]; exact ⟨fun q => absurd q (by decide), fun _ => Or.inl ⟨hy, rfl⟩⟩
    · simp only [Ok_pif, Ok_some]; exact ⟨fun _ => Or.inr ⟨hn, rfl⟩, fun q => absurd trivial q⟩
  unfold fJ0_equals_9ea2d
  simp only [Ok_gd, Ok_ono, Ok_pif, Ok_some]
  refine ⟨t, rfl, t1, s1, fun ce => Or.inl ⟨?_, rfl⟩, fun _ => ⟨fun h => absurd h (by decide), fun _ => ⟨fun h => absurd h (by decide), fun _ => ⟨fun _ => h36, fun q => absurd (s3.trans t3.symm) q⟩⟩⟩⟩
  subst ce
  have e3 : c0 = d0 := by rw [s4] at t4; cases t4; rfl
  subst e3
  exact ⟨c2.symm.trans d2, fun j hj => by rw [← c3 j hj, ← d3 j (by omega)]⟩
