theorem c_coder {s : Nat} {g : CS} (h : StO g s) : Ok (fJ0_coder_7d493 s g) (SmP g (fun r => r = 0)) := by
  obtain ⟨h1, h2, h3, -⟩ := h
  unfold fJ0_coder_7d493
  simp only [Ok_pif, Ok_gd, Ok_some]
  rw [h3]
  exact ⟨fun h => absurd h (by decide), fun _ => ⟨h1, by decide, rfl, rfl⟩⟩
theorem c_strlen {s : Nat} {g : CS} (h : StO g s) : Ok (fJ0_length_8abf5 s g) (SmP g (fun _ => True)) := by
  obtain ⟨h1, h2, h3, b, h4, h5, -⟩ := id h
  unfold fJ0_length_8abf5
  simp only [Ok_gd, Ok_ono]
  exact ⟨h1, b, h4, h5, Ok.same (c_coder h) (fun r _ => by rw [Ok_some]; exact ⟨rfl, trivial⟩)⟩
theorem c_eq9 (a b : Nat) (g : CS) (ka : qk g a = 22) (kb : qk g b = 22) (hl : ql g b = ql g a) (hb : ql g a ≤ 1000) : ∀ (z i : Nat) (x : Int32), x.toInt = i → i ≤ 1000 → 1000 - i < z → Ok (fJ1_equals_b5fdf_9 z (some a) (some b) x g) (D01 g) := by
  intro z
  induction z with
  | zero => intro i x h1 h2 h3; omega
  | succ z ih =>
    intro i x hx hi hz
    have e := inc (x := x) (by omega) (by omega)
    rw [fJ1_equals_b5fdf_9_s]
    generalize x + 1 = x' at e ⊢
    simp only [Ok_gd, Ok_ono, Ok_pif, Ok_some, Ok_nam]
    refine ⟨a, rfl, ka, fun _ => ⟨rfl, Or.inr rfl⟩, fun c => ?_⟩
    rw [t_le, e_nI (by omega)] at c
    rw [t_in]
    exact ⟨⟨by omega, by omega⟩, b, rfl, kb, ⟨by rw [t_in, hl]; omega, by omega⟩, fun _ => ih (i + 1) x' (by omega) (by omega) (by omega), fun _ => ⟨rfl, Or.inl rfl⟩⟩
theorem c_equals {s t : Nat} {g : CS} (hs : StO g s) (ht : StO g t) : Ok (fJ0_equals_9ea2d s (some t) g) (D01 g) := by
  obtain ⟨s1, s2, s3, b, s4, s5, s6, s7⟩ := id hs
  obtain ⟨t1, t2, t3, c, t4, t5, t6, t7⟩ := id ht
  have h36 : Ok (fJ0_equals_9ea2d_36 s (some t) g) (D01 g) := by
    unfold fJ0_equals_9ea2d_36
    simp only [Ok_gd, Ok_ono]
    refine ⟨s1, t, rfl, t1, ?_⟩
    rw [s4, t4]
    refine Ok.d01 (g := g) ?_ ?_ ?_
    · unfold fJ1_equals_b5fdf
      simp only [Ok_gd, Ok_ono, Ok_pif, Ok_some]
      refine ⟨b, rfl, s5, c, rfl, t5, fun hl => ?_, fun _ => ⟨rfl, Or.inl rfl⟩⟩
      rw [t_eq, e_nI (by omega), e_nI (by omega)] at hl
      exact c_eq9 b c g s5 t5 (by omega) s6 fuel 0 0 rfl (by omega) (by unfold fuel; omega)
    · simp only [Ok_pif, Ok_some]; exact ⟨fun _ => ⟨rfl, Or.inl rfl⟩, fun h => by simp at h⟩
    · simp only [Ok_pif, Ok_some]; exact ⟨fun h => absurd h (by decide), fun _ => ⟨rfl, Or.inr rfl⟩⟩
  unfold fJ0_equals_9ea2d
  simp only [Ok_gd, Ok_ono, Ok_pif, Ok_some]
  exact ⟨t, rfl, t1, s1, fun _ => ⟨rfl, Or.inr rfl⟩, fun _ => ⟨fun h => absurd h (by decide), fun _ => ⟨fun h => absurd h (by decide), fun _ => ⟨fun _ => h36, fun _ => ⟨rfl, Or.inl rfl⟩⟩⟩⟩⟩
theorem c_plainNumber {f : Nat} {g : CS} (h : FdO g f) : Ok (fX0_plainNumber f g) (SmP g (fun _ => True)) := by
  obtain ⟨h1, h2, h0, -, s, h5, h6⟩ := h
  unfold fX0_plainNumber
  simp only [Ok_gd, Ok_ono, Ok_pif, Ok_some]
  exact ⟨h1, fun _ => ⟨s, h5, h6.1, Ok.same (c_strlen h6) (fun r _ => by rw [Ok_some]; exact ⟨rfl, trivial⟩)⟩, fun _ => ⟨rfl, trivial⟩⟩
theorem c_sharesGroup {a b : Nat} {g : CS} (ha : FdO g a) (hb : FdO g b) : Ok (fX0_sharesGroup a (some b) g) (D01 g) := by
  unfold fX0_sharesGroup
  simp only [Ok_gd, Ok_ono, Ok_pif, Ok_some]
  exact ⟨ha.1, fun _ => ⟨rfl, Or.inl rfl⟩, fun _ => ⟨b, rfl, hb.1, fun _ => ⟨rfl, Or.inr rfl⟩, fun _ => ⟨rfl, Or.inl rfl⟩⟩⟩
theorem c_isOtherSort0 {a b : Nat} {g : CS} (ha : FdO g a) (hb : FdO g b) : Ok (fX0_isOtherSort a (some b) g) (D01 g) := by
  have y : D01 g (1, g) := ⟨rfl, Or.inr rfl⟩
  have n : D01 g (0, g) := ⟨rfl, Or.inl rfl⟩
  unfold fX0_isOtherSort
  rw [Ok_gd]
  have go : ∀ r : Int32, Ok (ono (some b) (fun a_5 => gd (qk g a_5 = 3) (bnd (fX0_isNumber a_5 g) (fun r_10 st_8 => pif (r = r_10) (bnd (fX0_isNumber a st_8) (fun r_14 st_12 => pif (r_14 = 0) (pif ((qI st_12 a 1) = (qI st_12 a_5 1)) (some ((0 : Int32), st_12)) (some ((1 : Int32), st_12))) (some ((0 : Int32), st_12)))) (some ((1 : Int32), st_8)))))) (D01 g) := by
    intro r
    have go2 : ∀ r2 : Int32, Ok (pif (r = r2) (bnd (fX0_isNumber a g) (fun r_14 st_12 => pif (r_14 = 0) (pif ((qI st_12 a 1) = (qI st_12 b 1)) (some ((0 : Int32), st_12)) (some ((1 : Int32), st_12))) (some ((0 : Int32), st_12)))) (some ((1 : Int32), g))) (D01 g) := by
      intro r2
      simp only [Ok_pif, Ok_some]
      refine ⟨fun _ => Ok.d01 (c_isNumber ha.1) ?_ ?_, fun _ => y⟩
      · simp only [Ok_pif, Ok_some]; exact ⟨fun _ => ⟨fun _ => n, fun _ => y⟩, fun _ => n⟩
      · simp only [Ok_pif, Ok_some]; exact ⟨fun _ => ⟨fun _ => n, fun _ => y⟩, fun _ => n⟩
    rw [Ok_ono]
    refine ⟨b, rfl, ?_⟩
    rw [Ok_gd]
    exact ⟨hb.1, Ok.d01 (c_isNumber hb.1) (go2 0) (go2 1)⟩
  exact ⟨ha.1, Ok.d01 (c_isNumber ha.1) (go 0) (go 1)⟩
theorem c_isNarrower0 {a b : Nat} {g : CS} (ha : FdO g a) (hb : FdO g b) : Ok (fX0_isNarrower a (some b) g) (D01 g) := by
  have y : D01 g (1, g) := ⟨rfl, Or.inr rfl⟩
  have n : D01 g (0, g) := ⟨rfl, Or.inl rfl⟩
  unfold fX0_isNarrower
  rw [Ok_gd]
  refine ⟨ha.1, Ok.d01 (c_isNumber ha.1) ?_ ?_⟩
  · simp only [Ok_pif, Ok_some]; exact ⟨fun _ => n, fun h => by simp at h⟩
  · simp only [Ok_pif, Ok_some, Ok_ono, Ok_gd]
    refine ⟨fun h => absurd h (by decide), fun _ => ⟨b, rfl, hb.1, Ok.d01 (c_isNumber hb.1) ?_ ?_⟩⟩
    · simp only [Ok_pif, Ok_some]; exact ⟨fun _ => n, fun h => by simp at h⟩
    · simp only [Ok_pif, Ok_some]; exact ⟨fun h => absurd h (by decide), fun _ => ⟨fun _ => n, fun _ => y⟩⟩
theorem c_hasOther {a b : Nat} {g : CS} (ha : FdO g a) (hb : FdO g b) : Ok (fX0_hasOtherDefault a (some b) g) (D01 g) := by
  have y : D01 g (1, g) := ⟨rfl, Or.inr rfl⟩
  have n : D01 g (0, g) := ⟨rfl, Or.inl rfl⟩
  obtain ⟨a1, -, -, -, s, a5, a6⟩ := ha
  obtain ⟨b1, -, -, -, t, b5, b6⟩ := hb
  unfold fX0_hasOtherDefault
  simp only [Ok_pif, Ok_some, Ok_ono, Ok_gd]
  refine ⟨a1, b, rfl, b1, fun _ => ⟨s, a5, a6.1, ?_⟩, fun _ => y⟩
  rw [b5]
  refine Ok.d01 (c_equals a6 b6) ?_ ?_
  · simp only [Ok_pif, Ok_some]; exact ⟨fun _ => y, fun h => by simp at h⟩
  · simp only [Ok_pif, Ok_some]; exact ⟨fun h => absurd h (by decide), fun _ => n⟩
theorem c_isOtherSort {a : Nat} {o : Option Nat} {g : CS} (ha : FdO g a) (ho : ∀ x, o = some x → FdO g x) : Ok (fX7_isOtherSort (some a) o g) (D01 g) := by
  unfold fX7_isOtherSort
  simp only [Ok_pif, Ok_some, Ok_ono, Ok_gd]
  refine ⟨fun _ => ⟨rfl, Or.inl rfl⟩, fun c => ?_⟩
  obtain ⟨f, e⟩ := Option.ne_none_iff_exists'.mp c
  refine ⟨f, e, (ho f e).1, Ok.d01 (c_isOtherSort0 (ho f e) ha) ?_ ?_⟩
  · simp only [Ok_pif, Ok_some]; exact ⟨fun _ => ⟨rfl, Or.inl rfl⟩, fun h => by simp at h⟩
  · simp only [Ok_pif, Ok_some]; exact ⟨fun h => absurd h (by decide), fun _ => ⟨rfl, Or.inr rfl⟩⟩
theorem c_isNarrower {a : Nat} {o : Option Nat} {g : CS} (ha : FdO g a) (ho : ∀ x, o = some x → FdO g x) : Ok (fX7_isNarrower o (some a) g) (D01 g) := by
  unfold fX7_isNarrower
  simp only [Ok_pif, Ok_some, Ok_ono, Ok_gd]
  refine ⟨fun _ => ⟨rfl, Or.inl rfl⟩, fun c => ?_⟩
  obtain ⟨f, e⟩ := Option.ne_none_iff_exists'.mp c
  refine ⟨f, e, (ho f e).1, Ok.d01 (c_isNarrower0 (ho f e) ha) ?_ ?_⟩
  · simp only [Ok_pif, Ok_some]; exact ⟨fun _ => ⟨rfl, Or.inl rfl⟩, fun h => by simp at h⟩
  · simp only [Ok_pif, Ok_some]; exact ⟨fun h => absurd h (by decide), fun _ => ⟨rfl, Or.inr rfl⟩⟩
theorem c_crowded18 (g : CS) (a m1 m2 h : Nat) (ha : FdO g a) (hm1 : MkO g m1) (hm2 : MkO g m2) (hh : FdO g h) : ∀ (z i : Nat) (x : Int32), x.toInt = i → i ≤ 31 → 31 - i < z → Ok (fX7_isCrowded_18 z (some a) (some m1) (some m2) (some h) x g) (D01 g) := by
  intro z
  induction z with
  | zero => intro i x h1 h2 h3; omega
  | succ z ih =>
    intro i x hx hi hz
    have e := inc (x := x) (by omega) (by omega)
    rw [fX7_isCrowded_18_s]
    generalize x + 1 = x' at e ⊢
    simp only [Ok_pif, Ok_some, Ok_ono, Ok_gd]
    refine ⟨a, rfl, ha.1, fun _ => ⟨rfl, Or.inl rfl⟩, fun c => ⟨m2, rfl, hm2.1, Ok.same (c_knownAt hm2) (fun r hr => ?_)⟩⟩
    rw [t_le] at c
    have h30 := ha.2.2.1
    have go := ih (i + 1) x' (by omega) (by omega) (by omega)
    simp only [Ok_ono, Ok_gd]
    refine ⟨m1, rfl, hm1.1, Ok.same (c_knownAt hm1) (fun r' hr' => ?_)⟩
    simp only [Ok_pif, Ok_nam, Ok_ono, Ok_gd]
    refine ⟨fun _ => go, fun c1 => ⟨fun _ => go, fun c2 => ⟨h, rfl, hh.1, ?_⟩⟩⟩
    obtain ⟨f, e1⟩ := Option.ne_none_iff_exists'.mp c1
    obtain ⟨f', e2⟩ := Option.ne_none_iff_exists'.mp c2
    subst e1
    subst e2
    refine Ok.d01 (c_sharesGroup hh (hr f rfl)) ?_ ?_
    · simp only [Ok_pif, Ok_nam]; exact ⟨fun _ => go, fun h => by simp at h⟩
    · simp only [Ok_pif, Ok_nam]
      refine ⟨fun h => absurd h (by decide), fun _ => Ok.d01 (c_sharesGroup ha (hr' f' rfl)) ?_ ?_⟩
      · simp only [Ok_pif, Ok_nam, Ok_some]; exact ⟨fun _ => ⟨rfl, Or.inr rfl⟩, fun h => by simp at h⟩
      · simp only [Ok_pif, Ok_nam, Ok_some]; exact ⟨fun h => absurd h (by decide), fun _ => go⟩
theorem c_isCrowded {g : CS} {a m1 m2 : Nat} (ha : FdO g a) (hm1 : MkO g m1) (hm2 : MkO g m2) : Ok (fX7_isCrowded (some a) (some m1) (some m2) g) (D01 g) := by
  unfold fX7_isCrowded
  simp only [Ok_ono, Ok_gd]
  refine ⟨a, rfl, ha.1, m2, rfl, hm2.1, Ok.same (c_knownAt hm2) (fun r hr => ?_)⟩
  simp only [Ok_pif, Ok_some]
  refine ⟨fun _ => ⟨rfl, Or.inl rfl⟩, fun c => ?_⟩
  obtain ⟨f, e⟩ := Option.ne_none_iff_exists'.mp c
  subst e
  exact c_crowded18 g a m1 m2 f ha hm1 hm2 (hr f rfl) fuel 1 1 rfl (by omega) (by unfold fuel; omega)
/-- what breaks() leaves -/
def BkP (g : CS) (q : Int32 × CS) : Prop := Sf g q.2 ∧ (q.1 = 0 ∨ q.1 = 1)
theorem c_recBreaks (d : Nat) (D : Nat) (ihd : ∀ (a b c e dp : Int32) (g : CS), CI g → dp.toInt = (D + 1 : Nat) → Ok (fX7_breaksN d 70 a b c e dp g) (BkP g)) (f : Nat) (o2 o3 : Option Nat) (e dp : Int32) (g : CS) (h : CI g) (hdp : dp.toInt = D) (hD : D ≤ 8) (hf : FdO g f) (h2 : ∀ x, o2 = some x → FdO g x) (h3 : ∀ x, o3 = some x → FdO g x) : Ok (fX7_recBreaks (fX7_breaksN d) 70 (some f) o2 o3 e dp g) (BkP g) := by
  have h67 : ∀ s0 s1 s2 s3, Ok (fX7_recBreaks_67 70 (fX7_breaksN d) dp s0 s1 s2 s3 g) (BkP g) := by
    intro s0 s1 s2 s3
    unfold fX7_recBreaks_67
    rw [Ok_gd]
    refine ⟨h.2.2.2.2.2.1.1, Ok.call (ihd s3 s2 s1 s0 (dp + 1) g h (by rw [inc (by omega) (by omega), hdp]; rfl)) (fun r t ht => ?_)⟩
    simp only [Ok_gd, Ok_some]
    exact ⟨nar01 ht.2, ht⟩
  have h42 : ∀ l6 s0, Ok (fX7_recBreaks_42 70 (fX7_breaksN d) (some f) o3 e dp l6 s0 g) (BkP g) := by
    intro l6 s0
    unfold fX7_recBreaks_42 fX7_recBreaks_66
    simp only [Ok_ono, Ok_gd, Ok_pif]
    exact ⟨f, rfl, hf.1, fun _ => h67 _ _ _ _, fun _ => ⟨fun _ => h67 _ _ _ _, fun _ => h67 _ _ _ _⟩⟩
  have h25 : ∀ s0, (o2 ≠ none ∨ o3 ≠ none) → Ok (fX7_recBreaks_25 70 (fX7_breaksN d) (some f) o2 o3 e dp s0 g) (BkP g) := by
    intro s0 hne
    unfold fX7_recBreaks_25
    simp only [Ok_ono, Ok_gd, Ok_pif]
    refine ⟨fun c => ?_, fun c => ?_⟩
    · obtain ⟨x, ex⟩ := Option.ne_none_iff_exists'.mp (hne.resolve_right (fun q => q c))
      exact ⟨x, ex, (h2 x ex).1, h42 _ _⟩
    · obtain ⟨x, ex⟩ := Option.ne_none_iff_exists'.mp c
      exact ⟨x, ex, (h3 x ex).1, h42 _ _⟩
  have h10 : (o2 ≠ none ∨ o3 ≠ none) → Ok (fX7_recBreaks_10 70 (fX7_breaksN d) (some f) o2 o3 e dp g) (BkP g) := by
    intro hne
    unfold fX7_recBreaks_10
    simp only [Ok_ono, Ok_gd, Ok_pif]
    refine ⟨fun c => ?_, fun c => ?_⟩
    · obtain ⟨x, ex⟩ := Option.ne_none_iff_exists'.mp (hne.resolve_left (fun q => q c))
      exact ⟨x, ex, (h3 x ex).1, h25 _ hne⟩
    · obtain ⟨x, ex⟩ := Option.ne_none_iff_exists'.mp c
      exact ⟨x, ex, (h2 x ex).1, h25 _ hne⟩
  unfold fX7_recBreaks
  simp only [Ok_pif, Ok_some]
  exact ⟨fun _ => ⟨fun _ => ⟨Sf.rf h, Or.inl rfl⟩, fun c => h10 (Or.inr c)⟩, fun c => h10 (Or.inl c)⟩
theorem c_whyBy (d : Nat) (D : Nat) (ihd : ∀ (a b c e dp : Int32) (g : CS), CI g → dp.toInt = (D + 1 : Nat) → Ok (fX7_breaksN d 70 a b c e dp g) (BkP g)) (n : Int32) (m1 m2 m3 : Nat) (e dp : Int32) (g : CS) (h : CI g) (hdp : dp.toInt = D) (hD : D ≤ 8) (hm1 : MkO g m1) (hm2 : MkO g m2) (hm3 : MkO g m3) : Ok (fX7_whyBy (fX7_breaksN d) 70 n (some m1) (some m2) (some m3) e dp g) (fun q => Sf g q.2) := by
  have no : Sf g g := Sf.rf h
  unfold fX7_whyBy
  simp only [Ok_ono, Ok_gd]
  refine ⟨m1, rfl, hm1.1, Ok.same (c_knownAt hm1) (fun o1 h1 => ?_)⟩
  simp only [Ok_pif, Ok_some, Ok_ono, Ok_gd]
  refine ⟨fun _ => no, fun c1 => ⟨m2, rfl, hm2.1, Ok.same (c_knownAt hm2) (fun o2 h2 => ?_)⟩⟩
  obtain ⟨f, ef⟩ := Option.ne_none_iff_exists'.mp c1
  subst ef
  have hf := h1 f rfl
  simp only [Ok_ono, Ok_gd]
  refine ⟨m3, rfl, hm3.1, Ok.same (c_knownAt hm3) (fun o3 h3 => ?_)⟩
  have g95 : Ok (fX7_whyBy_95 70 (fX7_breaksN d) (some m1) (some m2) (some m3) e dp (some f) o2 o3 g) (fun q => Sf g q.2) := by
    unfold fX7_whyBy_95
    refine Ok.d01 (c_isCrowded hf hm1 hm2) ?_ ?_
    · simp only [Ok_pif, Ok_some]
      refine ⟨fun _ => Ok.d01 (c_isCrowded hf hm1 hm3) ?_ ?_, fun h => by simp at h⟩
      · simp only [Ok_pif, Ok_some, Ok_ono, Ok_gd]
        refine ⟨fun _ => ⟨f, rfl, hf.1, fun _ => ⟨h.2.2.2.2.2.1.1, Ok.call (c_recBreaks d D ihd f o2 o3 e dp g h hdp hD hf h2 h3) (fun r t ht => ?_)⟩, fun _ => no⟩, fun h => by simp at h⟩
        simp only [Ok_pif, Ok_some]
        exact ⟨fun _ => ht.1, fun _ => ht.1⟩
      · simp only [Ok_pif, Ok_some]; exact ⟨fun h => absurd h (by decide), fun _ => no⟩
    · simp only [Ok_pif, Ok_some]; exact ⟨fun h => absurd h (by decide), fun _ => no⟩
  refine Ok.d01 (c_isOtherSort hf h2) ?_ ?_
  case refine_2 => simp only [Ok_pif, Ok_some]; exact ⟨fun h => absurd h (by decide), fun _ => no⟩
  simp only [Ok_pif, Ok_some]
  refine ⟨fun _ => Ok.d01 (c_isOtherSort hf h3) ?_ ?_, fun h => by simp at h⟩
  case refine_2 => simp only [Ok_pif, Ok_some]; exact ⟨fun h => absurd h (by decide), fun _ => no⟩
  simp only [Ok_pif, Ok_some]
  refine ⟨fun _ => Ok.d01 (c_isNarrower hf h2) ?_ ?_, fun h => by simp at h⟩
  case refine_2 => simp only [Ok_pif, Ok_some]; exact ⟨fun h => absurd h (by decide), fun _ => no⟩
  simp only [Ok_pif, Ok_some]
  refine ⟨fun _ => Ok.d01 (c_isNarrower hf h3) ?_ ?_, fun h => by simp at h⟩
  case refine_2 => simp only [Ok_pif, Ok_some]; exact ⟨fun h => absurd h (by decide), fun _ => no⟩
  simp only [Ok_pif, Ok_some, Ok_ono, Ok_gd]
  refine ⟨fun _ => ⟨fun _ => g95, fun _ => ⟨fun _ => g95, fun c3 => ?_⟩⟩, fun h => by simp at h⟩
  obtain ⟨x, ex⟩ := Option.ne_none_iff_exists'.mp c3
  refine ⟨x, ex, (h3 x ex).1, Ok.d01 (c_hasOther (h3 x ex) hf) ?_ ?_⟩
  · simp only [Ok_pif, Ok_some]; exact ⟨fun _ => g95, fun h => by simp at h⟩
  · simp only [Ok_pif, Ok_some]; exact ⟨fun h => absurd h (by decide), fun _ => no⟩
theorem c_first3 (d : Nat) (D : Nat) (ihd : ∀ (a b c e dp : Int32) (g : CS), CI g → dp.toInt = (D + 1 : Nat) → Ok (fX7_breaksN d 70 a b c e dp g) (BkP g)) (m1 m2 m3 : Nat) (e dp : Int32) (g0 : CS) (hdp : dp.toInt = D) (hD : D ≤ 8) (hm1 : MkO g0 m1) (hm2 : MkO g0 m2) (hm3 : MkO g0 m3) : ∀ (z i : Nat) (x : Int32) (g : CS), x.toInt = i → i ≤ 31 → 31 - i < z → Sf g0 g → Ok (fX7_firstNumber_3 70 (fX7_breaksN d) z (some m1) (some m2) (some m3) e dp x g) (fun q => Sf g0 q.2) := by
  intro z
  induction z with
  | zero => intro i x g h1 h2 h3; omega
  | succ z ih =>
    intro i x g hx hi hz hS
    have e1 := inc (x := x) (by omega) (by omega)
    rw [fX7_firstNumber_3_s]
    generalize x + 1 = x' at e1 ⊢
    simp only [Ok_pif, Ok_some, Ok_gd]
    rw [t_lt, show (30 : Int32).toInt = 30 from rfl]
    refine ⟨fun _ => hS, fun c => ⟨hS.1.2.2.2.2.2.1.1, Ok.call (c_whyBy d D ihd x m1 m2 m3 e dp g hS.1 hdp hD (hm1.fr hS.2) (hm2.fr hS.2) (hm3.fr hS.2)) (fun r t ht => ?_)⟩⟩
    simp only [Ok_pif, Ok_some, Ok_nam]
    exact ⟨fun _ => ih (i + 1) x' t (by omega) (by omega) (by omega) (hS.tr ht), fun _ => hS.tr ht⟩
theorem c_firstNumber (d : Nat) (D : Nat) (ihd : ∀ (a b c e dp : Int32) (g : CS), CI g → dp.toInt = (D + 1 : Nat) → Ok (fX7_breaksN d 70 a b c e dp g) (BkP g)) (m1 m2 m3 : Nat) (e dp : Int32) (g : CS) (h : CI g) (hdp : dp.toInt = D) (hD : D ≤ 8) (hm1 : MkO g m1) (hm2 : MkO g m2) (hm3 : MkO g m3) : Ok (fX7_firstNumber (fX7_breaksN d) 70 (some m1) (some m2) (some m3) e dp g) (fun q => Sf g q.2) := c_first3 d D ihd m1 m2 m3 e dp g hdp hD hm1 hm2 hm3 fuel 1 1 g rfl (by omega) (by unfold fuel; omega) (Sf.rf h)
theorem c_breaksN : ∀ (d D : Nat) (a b c e dp : Int32) (g : CS), CI g → dp.toInt = D → D ≤ 9 → 9 < D + d → Ok (fX7_breaksN d 70 a b c e dp g) (BkP g) := by
  intro d
  induction d with
  | zero => intro D a b c e dp g h hdp h9 hd; omega
  | succ d ihd =>
    intro D a b c e dp g h hdp h9 hd
    have no : BkP g (0, g) := ⟨Sf.rf h, Or.inl rfl⟩
    show Ok (fX7_breaks (fX7_breaksN d) 70 a b c e dp g) (BkP g)
    obtain ⟨r1, r2, r3, r4, r5⟩ := h.2.2.2.2.2.1
    unfold fX7_breaks
    rw [Ok_gd, r2]
    refine ⟨r1, Ok.same (c_makeOf h) (fun o1 h1 => ?_)⟩
    rw [r2]
    refine Ok.same (c_makeOf h) (fun o2 h2 => ?_)
    rw [r2]
    refine Ok.same (c_makeOf h) (fun o3 h3 => ?_)
    have g153 : ∀ (x : Int32) (t : CS), Sf g t → 0 ≤ x.toInt → x.toInt < 1024 → Ok (fX7_breaks_153 70 (fX7_breaksN d) x t) (BkP g) := by
      intro x t ht x0 x1
      obtain ⟨s1, s2, s3, s4, s5⟩ := ht.1.2.2.2.2.2.1
      unfold fX7_breaks_153
      simp only [Ok_gd, Ok_ono, Ok_pif, Ok_some]
      exact ⟨s1, 71, s3, s4, by rw [t_in, s5]; exact ⟨x0, by omega⟩, fun _ => ⟨ht, Or.inr rfl⟩, fun _ => ⟨ht, Or.inl rfl⟩⟩
    have g134 : ∀ (x s0 : Int32) (t : CS), Sf g t → 0 ≤ x.toInt → x.toInt < 1024 → Ok (fX7_breaks_134 70 (fX7_breaksN d) x s0 t) (BkP g) := by
      intro x s0 t ht x0 x1
      obtain ⟨s1, s2, s3, s4, s5⟩ := ht.1.2.2.2.2.2.1
      have wr : ∀ v : Int32, Ok (fX7_breaks_152 70 (fX7_breaksN d) x v x (qP t 70 1) t) (BkP g) := by
        intro v
        unfold fX7_breaks_152
        simp only [Ok_gd, Ok_ono, Ok_nam]
        exact ⟨71, s3, s4, by rw [t_in, s5]; exact ⟨x0, by omega⟩, g153 x _ (ht.tr (Sf.ob ht.1 (Cf.rf.wI (S := [71]) (by simp)) (by decide) (by decide))) x0 x1⟩
      unfold fX7_breaks_134
      simp only [Ok_gd, Ok_pif]
      exact ⟨s1, fun _ => wr 1, fun _ => wr 2⟩
    simp only [Ok_pif, Ok_some]
    refine ⟨fun _ => no, fun c1 => ⟨fun _ => no, fun c2 => ⟨fun _ => no, fun c3 => ⟨fun _ => no, fun c4 => ⟨fun c5 => ?_, fun _ => no⟩⟩⟩⟩⟩
    rw [t_le, show (8 : Int32).toInt = 8 from rfl] at c5
    obtain ⟨m1, e1⟩ := Option.ne_none_iff_exists'.mp c1
    obtain ⟨m2, e2⟩ := Option.ne_none_iff_exists'.mp c2
    obtain ⟨m3, e3⟩ := Option.ne_none_iff_exists'.mp c3
    subst e1
    subst e2
    subst e3
    have g82 : ∀ s0 s1 : Int32, Ok (fX7_breaks_82 70 (fX7_breaksN d) e dp (some m1) (some m2) (some m3) s0 s1 g) (BkP g) := by
      intro s0 s1
      unfold fX7_breaks_82
      simp only [Ok_nam, Ok_pif, Ok_some]
      generalize s1 + s0 = v
      refine ⟨fun _ => no, fun v0 => ?_⟩
      rw [t_lt, show (0 : Int32).toInt = 0 from rfl] at v0
      simp only [Ok_gd, Ok_ono, Ok_pif, Ok_some]
      refine ⟨r1, 71, r3, r4, fun v1 => ?_, fun _ => no⟩
      rw [t_lt, e_nI (by rw [r5]; decide), r5] at v1
      have v1 : v.toInt < 1024 := v1
      refine ⟨by rw [t_in, r5]; exact ⟨by omega, by omega⟩, fun _ => Ok.call (c_firstNumber d D (fun a b c e dp g h hd' => ihd (D + 1) a b c e dp g h hd' (by omega) (by omega)) m1 m2 m3 e dp g h hdp (by omega) (h1 m1 rfl) (h2 m2 rfl) (h3 m3 rfl)) (fun r t ht => ?_), fun _ => g153 v g (Sf.rf h) (by omega) v1⟩
      simp only [Ok_pif]
      exact ⟨fun _ => g134 v 0 t ht (by omega) v1, fun _ => g134 v 1 t ht (by omega) v1⟩
    exact ⟨fun _ => g82 _ _, fun _ => g82 _ _⟩
