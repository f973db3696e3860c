theorem c_coder {s : Nat} {g : CS} (h : StO g s) : Ok (fJ0_coder_7d493 s g) (SmP g (fun r => r = 0)) := by
  obtain ⟨h1, h2, h3, -⟩ := h
  unfold fJ0_coder_7d493
  simp only [Ok_pif, Ok_gd, Ok_some]
  rw [h3]
  exact ⟨fun h => absurd h (by decide), fun _ => ⟨h1, by decide, rfl, rfl⟩⟩
theorem c_strlen {s : Nat} {g : CS} (h : StO g s) : Ok (fJ0_length_8abf5 s g) (SmP g (fun _ => True)) := by
  obtain ⟨h1, h2, h3, b, h4, h5, -⟩ := id h
  unfold fJ0_length_8abf5
  simp only [Ok_gd, Ok_ono]
  exact ⟨h1, b, h4, h5, Ok.same (c_coder h) (fun r _ => by rw [Ok_some]; exact ⟨rfl, trivial⟩)⟩
theorem c_eq9 (a b : Nat) (g : CS) (ka : qk g a = 22) (kb : qk g b = 22) (hl : ql g b = ql g a) (hb : ql g a ≤ 1000) : ∀ (z i : Nat) (x : Int32), x.toInt = i → i ≤ 1000 → 1000 - i < z → Ok (fJ1_equals_b5fdf_9 z (some a) (some b) x g) (D01 g) := by
  intro z
  induction z with
  | zero => intro i x h1 h2 h3; omega
  | succ z ih =>
    intro i x hx hi hz
    have e := inc (x := x) (by omega) (by omega)
    rw [fJ1_equals_b5fdf_9_s]
    generalize x + 1 = x' at e ⊢
    simp only [Ok_gd, Ok_ono, Ok_pif, Ok_some, Ok_nam]
    refine ⟨a, rfl, ka, fun _ => ⟨rfl, Or.inr rfl⟩, fun c => ?_⟩
    rw [t_le, e_nI (by omega)] at c
    rw [t_in]
    exact ⟨⟨by omega, by omega⟩, b, rfl, kb, ⟨by rw [t_in, hl]; omega, by omega⟩, fun _ => ih (i + 1) x' (by omega) (by omega) (by omega), fun _ => ⟨rfl, Or.inl rfl⟩⟩
theorem c_equals {s t : Nat} {g : CS} (hs : StO g s) (ht : StO g t) : Ok (fJ0_equals_9ea2d s (some t) g) (D01 g) := by
  obtain ⟨s1, s2, s3, b, s4, s5, s6, s7⟩ := id hs
  obtain ⟨t1, t2, t3, c, t4, t5, t6, t7⟩ := id ht
  have h36 : Ok (fJ0_equals_9ea2d_36 s (some t) g) (D01 g) := by
    unfold fJ0_equals_9ea2d_36
    simp only [Ok_gd, Ok_ono]
    refine ⟨s1, t, rfl, t1, ?_⟩
    rw [s4, t4]
    refine Ok.d01 (g := g) ?_ ?_ ?_
    · unfold fJ1_equals_b5fdf
      simp only [Ok_gd, Ok_ono, Ok_pif, Ok_some]
      refine ⟨b, rfl, s5, c, rfl, t5, fun hl => ?_, fun _ => ⟨rfl, Or.inl rfl⟩⟩
      rw [t_eq, e_nI (by omega), e_nI (by omega)] at hl
      exact c_eq9 b c g s5 t5 (by omega) s6 fuel 0 0 rfl (by omega) (by unfold fuel; omega)
    · simp only [Ok_pif, Ok_some]; exact ⟨fun _ => ⟨rfl, Or.inl rfl⟩, fun h => by simp at h⟩
    · simp only [Ok_pif, Ok_some]; exact ⟨fun h => absurd h (by decide), fun _ => ⟨rfl, Or.inr rfl⟩⟩
  unfold fJ0_equals_9ea2d
  simp only [Ok_gd, Ok_ono, Ok_pif, Ok_some]
  exact ⟨t, rfl, t1, s1, fun _ => ⟨rfl, Or.inr rfl⟩, fun _ => ⟨fun h => absurd h (by decide), fun _ => ⟨fun h => absurd h (by decide), fun _ => ⟨fun _ => h36, fun _ => ⟨rfl, Or.inl rfl⟩⟩⟩⟩⟩
theorem c_plainNumber {f : Nat} {g : CS} (h : FdO g f) : Ok (fX0_plainNumber f g) (SmP g (fun _ => True)) := by
  obtain ⟨h1, h2, h0, -, s, h5, h6⟩ := h
  unfold fX0_plainNumber
  simp only [Ok_gd, Ok_ono, Ok_pif, Ok_some]
  exact ⟨h1, fun _ => ⟨s, h5, h6.1, Ok.same (c_strlen h6) (fun r _ => by rw [Ok_some]; exact ⟨rfl, trivial⟩)⟩, fun _ => ⟨rfl, trivial⟩⟩
theorem c_sharesGroup {a b : Nat} {g : CS} (ha : FdO g a) (hb : FdO g b) : Ok (fX0_sharesGroup a (some b) g) (D01 g) := by
  unfold fX0_sharesGroup
  simp only [Ok_gd, Ok_ono, Ok_pif, Ok_some]
  exact ⟨ha.1, fun _ => ⟨rfl, Or.inl rfl⟩, fun _ => ⟨b, rfl, hb.1, fun _ => ⟨rfl, Or.inr rfl⟩, fun _ => ⟨rfl, Or.inl rfl⟩⟩⟩
theorem c_isOtherSort0 {a b : Nat} {g : CS} (ha : FdO g a) (hb : FdO g b) : Ok (fX0_isOtherSort a (some b) g) (D01 g) := by
  have y : D01 g (1, g) := ⟨rfl, Or.inr rfl⟩
  have n : D01 g (0, g) := ⟨rfl, Or.inl rfl⟩
  unfold fX0_isOtherSort
  rw [Ok_gd]
  have go : ∀ r : Int32, Ok (ono (some b) (fun a_5 => gd (qk g a_5 = 3) (bnd (fX0_isNumber a_5 g) (fun r_10 st_8 => pif (r = r_10) (bnd (fX0_isNumber a st_8) (fun r_14 st_12 => pif (r_14 = 0) (pif ((qI st_12 a 1) = (qI st_12 a_5 1)) (some ((0 : Int32), st_12)) (some ((1 : Int32), st_12))) (some ((0 : Int32), st_12)))) (some ((1 : Int32), st_8)))))) (D01 g) := by
    intro r
    have go2 : ∀ r2 : Int32, Ok (pif (r = r2) (bnd (fX0_isNumber a g) (fun r_14 st_12 => pif (r_14 = 0) (pif ((qI st_12 a 1) = (qI st_12 b 1)) (some ((0 : Int32), st_12)) (some ((1 : Int32), st_12))) (some ((0 : Int32), st_12)))) (some ((1 : Int32), g))) (D01 g) := by
      intro r2
      simp only [Ok_pif, Ok_some]
      refine ⟨fun _ => Ok.d01 (c_isNumber ha.1) ?_ ?_, fun _ => y⟩
      · simp only [Ok_pif, Ok_some]; exact ⟨fun _ => ⟨fun _ => n, fun _ => y⟩, fun _ => n⟩
      · simp only [Ok_pif, Ok_some]; exact ⟨fun _ => ⟨fun _ => n, fun _ => y⟩, fun _ => n⟩
    rw [Ok_ono]
    refine ⟨b, rfl, ?_⟩
    rw [Ok_gd]
    exact ⟨hb.1, Ok.d01 (c_isNumber hb.1) (go2 0) (go2 1)⟩
  exact ⟨ha.1, Ok.d01 (c_isNumber ha.1) (go 0) (go 1)⟩
theorem c_isNarrower0 {a b : Nat} {g : CS} (ha : FdO g a) (hb : FdO g b) : Ok (fX0_isNarrower a (some b) g) (D01 g) := by
  have y : D01 g (1, g) := ⟨rfl, Or.inr rfl⟩
  have n : D01 g (0, g) := ⟨rfl, Or.inl rfl⟩
  unfold fX0_isNarrower
  rw [Ok_gd]
  refine ⟨ha.1, Ok.d01 (c_isNumber ha.1) ?_ ?_⟩
  · simp only [Ok_pif, Ok_some]; exact ⟨fun _ => n, fun h => by simp at h⟩
  · simp only [Ok_pif, Ok_some, Ok_ono, Ok_gd]
    refine ⟨fun h => absurd h (by decide), fun _ => ⟨b, rfl, hb.1, Ok.d01 (c_isNumber hb.1) ?_ ?_⟩⟩
    · simp only [Ok_pif, Ok_some]; exact ⟨fun _ => n, fun h => by simp at h⟩
    · simp only [Ok_pif, Ok_some]; exact ⟨fun h => absurd h (by decide), fun _ => ⟨fun _ => n, fun _ => y⟩⟩
theorem c_hasOther {a b : Nat} {g : CS} (ha : FdO g a) (hb : FdO g b) : Ok (fX0_hasOtherDefault a (some b) g) (D01 g) := by
  have y : D01 g (1, g) := ⟨rfl, Or.inr rfl⟩
  have n : D01 g (0, g) := ⟨rfl, Or.inl rfl⟩
  obtain ⟨a1, -, -, -, s, a5, a6⟩ := ha
  obtain ⟨b1, -, -, -, t, b5, b6⟩ := hb
  unfold fX0_hasOtherDefault
  simp only [Ok_pif, Ok_some, Ok_ono, Ok_gd]
  refine ⟨a1, b, rfl, b1, fun _ => ⟨s, a5, a6.1, ?_⟩, fun _ => y⟩
  rw [b5]
  refine Ok.d01 (c_equals a6 b6) ?_ ?_
  · simp only [Ok_pif, Ok_some]; exact ⟨fun _ => y, fun h => by simp at h⟩
  · simp only [Ok_pif, Ok_some]; exact ⟨fun h => absurd h (by decide), fun _ => n⟩
theorem c_isOtherSort {a : Nat} {o : Option Nat} {g : CS} (ha : FdO g a) (ho : ∀ x, o = some x → FdO g x) : Ok (fX7_isOtherSort (some a) o g) (D01 g) := by
  unfold fX7_isOtherSort
  simp only [Ok_pif, Ok_some, Ok_ono, Ok_gd]
  refine ⟨fun _ => ⟨rfl, Or.inl rfl⟩, fun c => ?_⟩
  obtain ⟨f, e⟩ := Option.ne_none_iff_exists'.mp c
  refine ⟨f, e, (ho f e).1, Ok.d01 (c_isOtherSort0 (ho f e) ha) ?_ ?_⟩
  · simp only [Ok_pif, Ok_some]; exact ⟨fun _ => ⟨rfl, Or.inl rfl⟩, fun h => by simp at h⟩
  · simp only [Ok_pif, Ok_some]; exact ⟨fun h => absurd h (by decide), fun _ => ⟨rfl, Or.inr rfl⟩⟩
theorem c_isNarrower {a : Nat} {o : Option Nat} {g : CS} (ha : FdO g a) (ho : ∀ x, o = some x → FdO g x) : Ok (fX7_isNarrower o (some a) g) (D01 g) := by
  unfold fX7_isNarrower
  simp only [Ok_pif, Ok_some, Ok_ono, Ok_gd]
  refine ⟨fun _ => ⟨rfl, Or.inl rfl⟩, fun c => ?_⟩
  obtain ⟨f, e⟩ := Option.ne_none_iff_exists'.mp c
  refine ⟨f, e, (ho f e).1, Ok.d01 (c_isNarrower0 (ho f e) ha) ?_ ?_⟩
  · simp only [Ok_pif, Ok_some]; exact ⟨fun _ => ⟨rfl, Or.inl rfl⟩, fun h => by simp at h⟩
  · simp only [Ok_pif, Ok_some]; exact ⟨fun h => absurd h (by decide), fun _ => ⟨rfl, Or.inr rfl⟩⟩
theorem c_crowded18 (g : CS) (a m1 m2 h : Nat) (ha : FdO g a) (hm1 : MkO g m1) (hm2 : MkO g m2) (hh : FdO g h) : ∀ (z i : Nat) (x : Int32), x.toInt = i → i ≤ 31 → 31 - i < z → Ok (fX7_isCrowded_18 z (some a) (some m1) (some m2) (some h) x g) (D01 g) := by
  intro z
  induction z with
  | zero => intro i x h1 h2 h3; omega
  | succ z ih =>
    intro i x hx hi hz
    have e := inc (x := x) (by omega) (by omega)
    rw [fX7_isCrowded_18_s]
    generalize x + 1 = x' at e ⊢
    simp only [Ok_pif, Ok_some, Ok_ono, Ok_gd]
    refine ⟨a, rfl, ha.1, fun _ => ⟨rfl, Or.inl rfl⟩, fun c => ⟨m2, rfl, hm2.1, Ok.same (c_knownAt hm2) (fun r hr => ?_)⟩⟩
    rw [t_le] at c
    have h30 := ha.2.2.1
    have go := ih (i + 1) x' (by omega) (by omega) (by omega)
    simp only [Ok_ono, Ok_gd]
    refine ⟨m1, rfl, hm1.1, Ok.same (c_knownAt hm1) (fun r' hr' => ?_)⟩
    simp only [Ok_pif, Ok_nam, Ok_ono, Ok_gd]
    refine ⟨fun _ => go, fun c1 => ⟨fun _ => go, fun c2 => ⟨h, rfl, hh.1, ?_⟩⟩⟩
    obtain ⟨f, e1⟩ := Option.ne_none_iff_exists'.mp c1
    obtain ⟨f', e2⟩ := Option.ne_none_iff_exists'.mp c2
    subst e1
    subst e2
    refine Ok.d01 (c_sharesGroup hh (hr f rfl)) ?_ ?_
    · simp only [Ok_pif, Ok_nam]; exact ⟨fun _ => go, fun h => by simp at h⟩
    · simp only [Ok_pif, Ok_nam]
      refine ⟨fun h => absurd h (by decide), fun _ => Ok.d01 (c_sharesGroup ha (hr' f' rfl)) ?_ ?_⟩
      · simp only [Ok_pif, Ok_nam, Ok_some]; exact ⟨fun _ => ⟨rfl, Or.inr rfl⟩, fun h => by simp at h⟩
      · simp only [Ok_pif, Ok_nam, Ok_some]; exact ⟨fun h => absurd h (by decide), fun _ => go⟩
theorem c_isCrowded {g : CS} {a m1 m2 : Nat} (ha : FdO g a) (hm1 : MkO g m1) (hm2 : MkO g m2) : Ok (fX7_isCrowded (some a) (some m1) (some m2) g) (D01 g) := by
  unfold fX7_isCrowded
  simp only [Ok_ono, Ok_gd]
  refine ⟨a, rfl, ha.1, m2, rfl, hm2.1, Ok.same (c_knownAt hm2) (fun r hr => ?_)⟩
  simp only [Ok_pif, Ok_some]
  refine ⟨fun _ => ⟨rfl, Or.inl rfl⟩, fun c => ?_⟩
  obtain ⟨f, e⟩ := Option.ne_none_iff_exists'.mp c
  subst e
  exact c_crowded18 g a m1 m2 f ha hm1 hm2 (hr f rfl) fuel 1 1 rfl (by omega) (by unfold fuel; omega)
