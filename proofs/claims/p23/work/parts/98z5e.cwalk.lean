/-! walks: the class's fields and makes against the reference's -/
theorem m_knownAt {g : CS} {r : RS} {mk j : Nat} {n : Int32} (h : EqM g mk r j) : Ok (fX1_knownAt mk n g) (SmP g (fun o => (o ≠ none ↔ hasN r j n.toNatClampNeg) ∧ ∀ x, o = some x → EqF g x r (31 * j + n.toNatClampNeg) n.toNatClampNeg)) := by
  have hk : qk g mk = 4 := by obtain ⟨ar, -, h2, -⟩ := h; exact h2.1
  unfold fX1_knownAt
  rw [Ok_gd]
  refine ⟨hk, Ok.same (m_fieldAt h) (fun o ho => ?_)⟩
  have nn : 0 < n.toInt → (n.toNatClampNeg : Int) = n.toInt := fun q => by rw [t_nat]; omega
  have hin : hasN r j n.toNatClampNeg → o ≠ none := fun q => ho.1.mpr ⟨by have := q.1; rw [t_nat] at this; omega, by have := q.1; have := q.2.1; rw [t_nat] at *; omega, q.2.2.1⟩
  by_cases c : o = none
  · rw [pif_pos c, Ok_some]
    exact ⟨rfl, ⟨fun q => absurd rfl q, fun q => absurd c (hin q)⟩, fun x hx => by cases hx⟩
  · rw [pif_neg c]
    obtain ⟨x, e⟩ := Option.ne_none_iff_exists'.mp c
    have hx := ho.2 x e
    have h8 := ho.1.mp c
    have n1 := nn h8.1
    simp only [Ok_ono, Ok_gd]
    refine ⟨x, e, hx.1.1, ?_⟩
    rw [hx.2.2.1.1]
    by_cases c0 : gF r 1 (31 * j + n.toNatClampNeg) = 0
    · rw [pif_pos c0, Ok_some]
      exact ⟨rfl, ⟨fun q => absurd rfl q, fun q => absurd c0 q.2.2.2⟩, fun x hx => by cases hx⟩
    · rw [pif_neg c0, Ok_some]
      exact ⟨rfl, ⟨fun _ => ⟨by omega, by omega, h8.2.2, c0⟩, fun _ => c⟩, ho.2⟩
/-- a field's sort by its place -/
def sFl (r : RS) (F : Nat) : Int32 := if 5 ≤ gF r 1 F then gF r 1 F else 0
theorem srt_sFl {r : RS} {m n : Nat} : srt r m n = sFl r (31 * m + n) := rfl
theorem m_num {g : CS} {r : RS} {H F n : Nat} (h : EqF g H r F n) (h0 : gF r 1 F ≠ 0) : Ok (fX0_isNumber H g) (BC (sFl r F = 0) g) := by
  obtain ⟨a1, a2, ⟨a3, a4, a5⟩, -⟩ := h
  have hk : (gF r 1 F).toInt ≠ 0 := fun q => h0 (by rw [t_eq, q]; rfl)
  have hs : sFl r F = 0 ↔ (gF r 1 F).toInt ≤ 4 := by
    unfold sFl
    by_cases c : 5 ≤ gF r 1 F
    · rw [if_pos c]
      rw [t_le, show (5 : Int32).toInt = 5 from rfl] at c
      exact ⟨fun q => absurd q h0, fun q => by omega⟩
    · rw [if_neg c]
      rw [t_le, show (5 : Int32).toInt = 5 from rfl] at c
      exact ⟨fun _ => by omega, fun _ => rfl⟩
  unfold fX0_isNumber
  rw [Ok_gd, a3]
  refine ⟨a1.1, ?_⟩
  simp only [Ok_pif, Ok_some]
  rw [t_lt, t_lt, show (1 : Int32).toInt = 1 from rfl, show (4 : Int32).toInt = 4 from rfl]
  exact ⟨fun c => by omega, fun c => ⟨fun d => Or.inr ⟨fun q => by have := hs.mp q; omega, rfl⟩, fun d => Or.inl ⟨hs.mpr (by omega), rfl⟩⟩⟩
theorem sFl_n {r : RS} {F : Nat} (h : sFl r F ≠ 0) : sFl r F = gF r 1 F := by
  unfold sFl at *
  by_cases c : 5 ≤ gF r 1 F
  · rw [if_pos c]
  · rw [if_neg c] at h; exact absurd rfl h
theorem m_othS {g : CS} {r : RS} {H1 F1 n1 H2 F2 n2 : Nat} (h1 : EqF g H1 r F1 n1) (k1 : gF r 1 F1 ≠ 0) (h2 : EqF g H2 r F2 n2) (k2 : gF r 1 F2 ≠ 0) : Ok (fX0_isOtherSort H2 (some H1) g) (BC (sFl r F1 ≠ sFl r F2) g) := by
  unfold fX0_isOtherSort
  rw [Ok_gd]
  refine ⟨h2.1.1, Ok.bc (m_num h2 k2) (fun s2 => ?_) (fun s2 => ?_)⟩
  · simp only [Ok_ono, Ok_gd]
    refine ⟨H1, rfl, h1.1.1, Ok.bc (m_num h1 k1) (fun s1 => ?_) (fun s1 => ?_)⟩
    · rw [pif_pos rfl]
      refine Ok.bc (m_num h2 k2) (fun _ => ?_) (fun q => absurd s2 q)
      rw [pif_neg (by decide), Ok_some]
      exact Or.inr ⟨fun q => q (s1.trans s2.symm), rfl⟩
    · rw [pif_neg (by decide), Ok_some]
      exact Or.inl ⟨fun q => s1 (q.trans s2), rfl⟩
  · simp only [Ok_ono, Ok_gd]
    refine ⟨H1, rfl, h1.1.1, Ok.bc (m_num h1 k1) (fun s1 => ?_) (fun s1 => ?_)⟩
    · rw [pif_neg (by decide), Ok_some]
      exact Or.inl ⟨fun q => s2 (q.symm.trans s1), rfl⟩
    · rw [pif_pos rfl]
      refine Ok.bc (m_num h2 k2) (fun q => absurd q s2) (fun _ => ?_)
      rw [pif_pos rfl, h2.2.2.1.1, h1.2.2.1.1]
      simp only [Ok_pif, Ok_some]
      rw [sFl_n s1, sFl_n s2]
      exact ⟨fun c => Or.inr ⟨fun q => q c.symm, rfl⟩, fun c => Or.inl ⟨fun q => c q.symm, rfl⟩⟩
theorem bc01 {c : Prop} {g : CS} {x : Option (Int32 × CS)} (h : Ok x (BC c g)) : Ok (bnd x (fun r st => pif (r = 0) (some ((0 : Int32), st)) (some ((1 : Int32), st)))) (BC c g) := Ok.bc h (fun hc => by rw [pif_neg (by decide), Ok_some]; exact Or.inl ⟨hc, rfl⟩) (fun hc => by rw [pif_pos rfl, Ok_some]; exact Or.inr ⟨hc, rfl⟩)
/-- what knownAt() has answered -/
def KnO (g : CS) (r : RS) (j n : Nat) (o : Option Nat) : Prop := (o ≠ none ↔ hasN r j n) ∧ ∀ x, o = some x → EqF g x r (31 * j + n) n
theorem BC.iff {c c' : Prop} {g : CS} {q : Int32 × CS} (h : BC c g q) (hi : c ↔ c') : BC c' g q := by
  unfold BC at *
  rw [← hi]
  exact h
theorem m_othX {g : CS} {r : RS} {H1 a b n : Nat} {o : Option Nat} (h1 : EqF g H1 r (31 * a + n) n) (ha : hasN r a n) (ho : KnO g r b n o) : Ok (fX7_isOtherSort (some H1) o g) (BC (wOth r a b n) g) := by
  unfold fX7_isOtherSort wOth
  by_cases c : o = none
  · rw [pif_pos c, Ok_some]
    exact Or.inr ⟨fun q => (ho.1.mpr q.1) c, rfl⟩
  · rw [pif_neg c]
    obtain ⟨x, e⟩ := Option.ne_none_iff_exists'.mp c
    have hb := ho.1.mp c
    simp only [Ok_ono, Ok_gd]
    exact ⟨x, e, (ho.2 x e).1.1, (bc01 (m_othS h1 ha.2.2.2 (ho.2 x e) hb.2.2.2)).mono (fun q hq => hq.iff ⟨fun w => ⟨hb, w⟩, fun w => w.2⟩)⟩
theorem m_narX {g : CS} {r : RS} {H1 a b n : Nat} {o : Option Nat} (h1 : EqF g H1 r (31 * a + n) n) (ha : hasN r a n) (ho : KnO g r b n o) : Ok (fX7_isNarrower o (some H1) g) (BC (wNar r a b n) g) := by
  unfold fX7_isNarrower wNar
  by_cases c : o = none
  · rw [pif_pos c, Ok_some]
    exact Or.inr ⟨fun q => (ho.1.mpr q.1) c, rfl⟩
  · rw [pif_neg c]
    obtain ⟨x, e⟩ := Option.ne_none_iff_exists'.mp c
    have hb := ho.1.mp c
    have hx := ho.2 x e
    simp only [Ok_ono, Ok_gd]
    refine ⟨x, e, hx.1.1, bc01 ?_⟩
    unfold fX0_isNarrower
    rw [Ok_gd]
    have kb : sFl r (31 * b + n) ≠ 0 → 5 ≤ (gF r 1 (31 * b + n)).toInt := fun q => by
      unfold sFl at q
      by_cases c5 : 5 ≤ gF r 1 (31 * b + n)
      · rw [t_le] at c5; exact c5
      · rw [if_neg c5] at q; exact absurd rfl q
    have ka : sFl r (31 * a + n) = 0 → (gF r 1 (31 * a + n)).toInt ≤ 4 := fun q => by
      unfold sFl at q
      by_cases c5 : 5 ≤ gF r 1 (31 * a + n)
      · rw [if_pos c5] at q; exact absurd q ha.2.2.2
      · rw [t_le, show (5 : Int32).toInt = 5 from rfl] at c5; omega
    refine ⟨hx.1.1, Ok.bc (m_num hx hb.2.2.2) (fun s2 => ?_) (fun s2 => ?_)⟩
    · rw [pif_neg (by decide)]
      simp only [Ok_ono, Ok_gd]
      refine ⟨H1, rfl, h1.1.1, Ok.bc (m_num h1 ha.2.2.2) (fun s1 => ?_) (fun s1 => ?_)⟩
      · rw [pif_neg (by decide), h1.2.2.1.1, hx.2.2.1.1]
        simp only [Ok_pif, Ok_some]
        rw [t_le]
        exact ⟨fun d => Or.inr ⟨fun q => by have := q.2.2; omega, rfl⟩, fun d => Or.inl ⟨⟨hb, s1, by omega⟩, rfl⟩⟩
      · rw [pif_pos rfl, Ok_some]
        exact Or.inr ⟨fun q => s1 q.2.1, rfl⟩
    · rw [pif_pos rfl, Ok_some]
      exact Or.inr ⟨fun q => by have := kb s2; have := ka q.2.1; have := q.2.2; omega, rfl⟩
/-- another default -/
theorem m_difX {g : CS} {r : RS} {H1 H3 a c n : Nat} (h1 : EqF g H1 r (31 * a + n) n) (ha : hasN r a n) (h3 : EqF g H3 r (31 * c + n) n) (hc : hasN r c n) (hs : srt r a n = srt r c n) : Ok (fX0_hasOtherDefault H3 (some H1) g) (BC (wDif r a c n) g) := by
  obtain ⟨a1, a2, ⟨a3, a3', a3''⟩, a4, a5, a6, -, ⟨s1, l1, p1, q1, u1, v1⟩, a9, a10⟩ := h1
  obtain ⟨b1, b2, ⟨b3, b3', b3''⟩, b4, b5, b6, -, ⟨s3, l3, p3, q3, u3, v3⟩, b9, b10⟩ := h3
  have e5 : gF r 1 (31 * a + n) = 5 ↔ gF r 1 (31 * c + n) = 5 := by
    constructor
    · intro q
      have w : srt r c n = 5 := by rw [← hs]; unfold srt; rw [q]; rfl
      exact srt_5 w
    · intro q
      have w : srt r a n = 5 := by rw [hs]; unfold srt; rw [q]; rfl
      exact srt_5 w
  have txt := w_equals q3 q1
  unfold fX0_hasOtherDefault
  rw [Ok_gd]
  refine ⟨b1.1, ?_⟩
  simp only [Ok_ono, Ok_gd]
  refine ⟨H1, rfl, a1.1, ?_⟩
  rw [Ok_pif, lg_cmp_eq]
  have fin : qJ g H3 6 = qJ g H1 6 → (¬ (l3 = l1 ∧ ∀ j, j < l3 → gF r 7 (12 * (31 * c + n) + (0 + j)) = gF r 7 (12 * (31 * a + n) + (0 + j))) ↔ wDif r a c n) → Ok (ono (qP g H3 5) (fun a_6 => gd (qk g a_6 = 1) (bnd (fJ0_equals_9ea2d a_6 (qP g H1 5) g) (fun r_11 st_9 => pif (r_11 = 0) (some ((1 : Int32), st_9)) (some ((0 : Int32), st_9)))))) (BC (wDif r a c n) g) := fun _ hi => by
    rw [p3, p1]
    simp only [Ok_ono, Ok_gd]
    refine ⟨s3, rfl, q3.1.1, Ok.bc txt (fun hy => ?_) (fun hn => ?_)⟩
    · rw [pif_neg (by decide), Ok_some]
      exact Or.inr ⟨fun q => (hi.mpr q) hy, rfl⟩
    · rw [pif_pos rfl, Ok_some]
      exact Or.inl ⟨hi.mp hn, rfl⟩
  by_cases c5 : gF r 1 (31 * a + n) = 5
  · have c5' := e5.mp c5
    have s5 : srt r a n = 5 := by unfold srt; rw [c5]; rfl
    have j0 : qJ g H3 6 = qJ g H1 6 := by rw [j_eq, a9 (Or.inl c5), b9 (Or.inl c5')]
    obtain ⟨u1, w1⟩ := u1 c5
    obtain ⟨u3, w3⟩ := u3 c5'
    refine ⟨fun _ => fin j0 ?_, fun q => absurd j0 q⟩
    unfold wDif
    constructor
    · intro hno
      refine ⟨hc, by rw [s5]; decide, ?_⟩
      by_cases cl : gL r 6 (31 * a + n) = gL r 6 (31 * c + n)
      · refine Or.inr ⟨s5, Classical.byContradiction (fun q => hno ⟨by rw [cl] at u1; omega, fun j hj => Classical.byContradiction (fun w => q ⟨j, by rw [cl]; omega, fun v => w ?_⟩)⟩)⟩
        rw [Nat.zero_add]; exact v.symm
      · exact Or.inl cl
    · rintro ⟨-, -, w⟩ ⟨z1, z2⟩
      rcases w with w | ⟨-, k, k1, k2⟩
      · exact w (by rw [j_eq]; omega)
      · have := z2 k (by omega)
        rw [Nat.zero_add] at this
        exact k2 this.symm
  · have c5' : gF r 1 (31 * c + n) ≠ 5 := fun q => c5 (e5.mpr q)
    have s5 : srt r a n ≠ 5 := fun q => c5 (srt_5 q)
    obtain ⟨x1, y1⟩ := a10 c5 ha.2.2.2
    obtain ⟨x3, y3⟩ := b10 c5' hc.2.2.2
    have hl1 := v1 c5
    have hl3 := v3 c5'
    rw [x1, x3]
    refine ⟨fun ce => fin (by rw [x1, x3]; exact ce) ?_, fun ce => ?_⟩
    · unfold wDif
      constructor
      · intro q
        exact absurd ⟨by omega, fun j hj => by omega⟩ q
      · rintro ⟨-, -, w⟩ -
        rcases w with w | w
        · exact w ce.symm
        · exact s5 w.1
    · rw [Ok_some]
      refine Or.inl ⟨⟨hc, fun s6 => ce ?_, Or.inl (fun q => ce q.symm)⟩, rfl⟩
      have k6 : gF r 1 (31 * a + n) = 6 := srt_6 s6
      have k6' : gF r 1 (31 * c + n) = 6 := srt_6 (by rw [← hs]; exact s6)
      rw [j_eq, y1 k6, y3 k6']
