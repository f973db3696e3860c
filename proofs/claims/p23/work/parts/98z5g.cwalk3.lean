/-- breaks() one level down -/
def IhB (r : RS) (d D : Nat) : Prop := ∀ (a b c e dp : Int32) (g : CS), IW g r → 0 ≤ a.toInt → a.toInt < 8 → 0 ≤ b.toInt → b.toInt < 8 → 0 ≤ c.toInt → c.toInt < 8 → a.toNatClampNeg < d → a.toNatClampNeg + D ≤ 8 → dp.toInt = D → Ok (fX7_breaksN d 70 a b c e dp g) (BrP r g (wBrk r (a.toNatClampNeg + 1) a.toNatClampNeg b.toNatClampNeg c.toNatClampNeg (e = 0)))
theorem m_rec {d D : Nat} {r : RS} (ih : IhB r d (D + 1)) {g : CS} {H1 a b c n : Nat} {o2 o3 : Option Nat} {e dp : Int32} (h : IW g r) (h1 : EqF g H1 r (31 * a + n) n) (ta : tld r a) (tb : tld r b) (tc : tld r c) (ha : hasN r a n) (h6 : srt r a n = 6) (h2 : KnO g r b n o2) (h3 : KnO g r c n o3) (s2 : hasN r b n → srt r b n = 6) (s3 : hasN r c n → srt r c n = 6) (had : a ≤ d) (haD : a + D ≤ 8) (hdp : dp.toInt = D) : Ok (fX7_recBreaks (fX7_breaksN d) 70 (some H1) o2 o3 e dp g) (BrP r g (wIn r (wBrk r a) a b c n (e = 0))) := by
  obtain ⟨⟨hC, hM, hT, hE⟩, hW⟩ := id h
  have inn : ∀ {m : Nat}, tld r m → hasN r m n → srt r m n = 6 → 0 ≤ (gF r 3 (31 * m + n)).toInt ∧ (gF r 3 (31 * m + n)).toInt < m := fun tm hm s6 => by
    obtain ⟨-, q, -⟩ := hM _ n tm.1 tm.2 hm
    obtain ⟨i1, i2, -⟩ := q (srt_6 s6)
    exact ⟨i1, i2⟩
  have e1 : qI g H1 3 = gF r 3 (31 * a + n) := h1.2.2.2.2.1 (srt_6 h6)
  obtain ⟨i1, i2⟩ := inn ta ha h6
  have a8 := ta.1
  have b8 := tb.1
  have c8 := tc.1
  have hma : inM r a n = (gF r 3 (31 * a + n)).toNatClampNeg := rfl
  have hmaN : (gF r 3 (31 * a + n)).toNatClampNeg < a := by rw [t_nat]; omega
  -- the call
  have h67 : ∀ (s0 s1 s2 : Int32), 0 ≤ s2.toInt → s2.toInt < 8 → 0 ≤ s1.toInt → s1.toInt < 8 → Ok (fX7_recBreaks_67 70 (fX7_breaksN d) dp s0 s1 s2 (qI g H1 3) g) (BrP r g (wBrk r a (inM r a n) s2.toNatClampNeg s1.toNatClampNeg (s0 = 0))) := fun s0 s1 s2 x1 x2 y1 y2 => by
    unfold fX7_recBreaks_67
    rw [Ok_gd, e1]
    refine ⟨hC.2.2.2.2.2.1.1, Ok.call (ih (gF r 3 (31 * a + n)) s2 s1 s0 (dp + 1) g h i1 (by omega) x1 x2 y1 y2 (by omega) (by omega) (by rw [inc (by omega) (by omega), hdp]; rfl)) (fun x t ht => ?_)⟩
    obtain ⟨t1, t2, t3⟩ := ht
    have t3 : Vb _ x := t3
    simp only [Ok_gd, Ok_some]
    refine ⟨nar01 (by rcases t3 with q | q; exact Or.inr q.1; exact Or.inl q.1), t1, t2, t3.iff ?_⟩
    rw [← hma]
    exact (wBrk_st hM (inM r a n) a _ _ _ hmaN).symm
  have ex3 : ∀ x, o3 = some x → qI g x 3 = gF r 3 (31 * c + n) ∧ 0 ≤ (gF r 3 (31 * c + n)).toInt ∧ (gF r 3 (31 * c + n)).toInt < 8 ∧ hasN r c n := fun x e => by
    have hc := h3.1.mp (by rw [e]; exact fun q => by cases q)
    obtain ⟨j1, j2⟩ := inn tc hc (s3 hc)
    exact ⟨(h3.2 x e).2.2.2.2.1 (srt_6 (s3 hc)), j1, by omega, hc⟩
  have ex2 : ∀ x, o2 = some x → qI g x 3 = gF r 3 (31 * b + n) ∧ 0 ≤ (gF r 3 (31 * b + n)).toInt ∧ (gF r 3 (31 * b + n)).toInt < 8 ∧ hasN r b n := fun x e => by
    have hb := h2.1.mp (by rw [e]; exact fun q => by cases q)
    obtain ⟨j1, j2⟩ := inn tb hb (s2 hb)
    exact ⟨(h2.2 x e).2.2.2.2.1 (srt_6 (s2 hb)), j1, by omega, hb⟩
  have no2 : o2 = none → ¬ hasN r b n := fun q w => h2.1.mpr w q
  have no3 : o3 = none → ¬ hasN r c n := fun q w => h3.1.mpr w q
  unfold fX7_recBreaks fX7_recBreaks_10 fX7_recBreaks_25 fX7_recBreaks_42 fX7_recBreaks_66
  by_cases c2 : o2 = none
  · rw [pif_pos c2, pif_pos c2]
    by_cases c3 : o3 = none
    · rw [pif_pos c3, Ok_some]
      refine ⟨Cf.rf, hW, Or.inr ⟨rfl, fun q => ?_⟩⟩
      rcases q with q | q | q
      · exact no2 c2 q.2.1
      · exact no3 c3 q.1
      · exact no2 c2 q.2.1
    · rw [pif_neg c3]
      obtain ⟨x, ex⟩ := Option.ne_none_iff_exists'.mp c3
      obtain ⟨x1, x2, x3, x4⟩ := ex3 x ex
      have kx := (h3.2 x ex).1.1
      simp only [Ok_ono, Ok_gd, pif_neg c3]
      refine ⟨x, ex, kx, x, ex, kx, H1, rfl, h1.1.1, ?_⟩
      rw [x1]
      have hi : wBrk r a (inM r a n) (gF r 3 (31 * c + n)).toNatClampNeg (gF r 3 (31 * c + n)).toNatClampNeg (e = 0) ↔ wIn r (wBrk r a) a b c n (e = 0) := by
        refine ⟨fun w => Or.inr (Or.inl ⟨x4, no2 c2, w⟩), fun w => ?_⟩
        rcases w with w | w | w
        · exact absurd w.2.1 (no2 c2)
        · exact w.2.2
        · exact absurd x4 w.1
      by_cases ce : e = 0
      · rw [pif_pos ce]
        refine (h67 0 _ _ x2 x3 x2 x3).mono (fun q hq => ⟨hq.1, hq.2.1, hq.2.2.iff ?_⟩)
        have ee : ((0 : Int32) = 0) = (e = 0) := propext ⟨fun _ => ce, fun _ => rfl⟩
        rw [ee]; exact hi
      · rw [pif_neg ce]
        refine (h67 1 _ _ x2 x3 x2 x3).mono (fun q hq => ⟨hq.1, hq.2.1, hq.2.2.iff ?_⟩)
        have ee : ((1 : Int32) = 0) = (e = 0) := propext ⟨fun q => absurd q (by decide), fun q => absurd q ce⟩
        rw [ee]; exact hi
  · rw [pif_neg c2, pif_neg c2]
    obtain ⟨y, ey⟩ := Option.ne_none_iff_exists'.mp c2
    obtain ⟨y1, y2, y3, y4⟩ := ex2 y ey
    have ky := (h2.2 y ey).1.1
    by_cases c3 : o3 = none
    · simp only [Ok_ono, Ok_gd, pif_pos c3]
      refine ⟨y, ey, ky, y, ey, ky, H1, rfl, h1.1.1, ?_⟩
      rw [y1]
      have hi : wBrk r a (inM r a n) (gF r 3 (31 * b + n)).toNatClampNeg (gF r 3 (31 * b + n)).toNatClampNeg True ↔ wIn r (wBrk r a) a b c n (e = 0) := by
        refine ⟨fun w => Or.inr (Or.inr ⟨no3 c3, y4, w⟩), fun w => ?_⟩
        rcases w with w | w | w
        · exact absurd w.1 (no3 c3)
        · exact absurd w.1 (no3 c3)
        · exact w.2.2
      have ee : ((0 : Int32) = 0) = True := propext ⟨fun _ => trivial, fun _ => rfl⟩
      have g0 : Ok (fX7_recBreaks_67 70 (fX7_breaksN d) dp 0 (gF r 3 (31 * b + n)) (gF r 3 (31 * b + n)) (qI g H1 3) g) (BrP r g (wIn r (wBrk r a) a b c n (e = 0))) := (h67 0 _ _ y2 y3 y2 y3).mono (fun q hq => ⟨hq.1, hq.2.1, hq.2.2.iff (by rw [ee]; exact hi)⟩)
      rw [Ok_pif]
      exact ⟨fun _ => g0, fun _ => g0⟩
    · obtain ⟨x, ex⟩ := Option.ne_none_iff_exists'.mp c3
      obtain ⟨x1, x2, x3, x4⟩ := ex3 x ex
      have kx := (h3.2 x ex).1.1
      simp only [Ok_ono, Ok_gd, pif_neg c3]
      refine ⟨y, ey, ky, x, ex, kx, H1, rfl, h1.1.1, ?_⟩
      rw [x1, y1]
      have hi : wBrk r a (inM r a n) (gF r 3 (31 * b + n)).toNatClampNeg (gF r 3 (31 * c + n)).toNatClampNeg (e = 0) ↔ wIn r (wBrk r a) a b c n (e = 0) := by
        refine ⟨fun w => Or.inl ⟨x4, y4, w⟩, fun w => ?_⟩
        rcases w with w | w | w
        · exact w.2.2
        · exact absurd y4 w.2.1
        · exact absurd x4 w.1
      by_cases ce : e = 0
      · rw [pif_pos ce]
        refine (h67 0 _ _ y2 y3 x2 x3).mono (fun q hq => ⟨hq.1, hq.2.1, hq.2.2.iff ?_⟩)
        have ee : ((0 : Int32) = 0) = (e = 0) := propext ⟨fun _ => ce, fun _ => rfl⟩
        rw [ee]; exact hi
      · rw [pif_neg ce]
        refine (h67 1 _ _ y2 y3 x2 x3).mono (fun q hq => ⟨hq.1, hq.2.1, hq.2.2.iff ?_⟩)
        have ee : ((1 : Int32) = 0) = (e = 0) := propext ⟨fun q => absurd q (by decide), fun q => absurd q ce⟩
        rw [ee]; exact hi
/-- whyBy() -/
def WyP (r : RS) (g : CS) (v : Nat) (q : Int32 × CS) : Prop := Cf [71] g q.2 ∧ WkC q.2 r ∧ q.1.toInt = v
theorem m_why {d D : Nat} {r : RS} (ih : IhB r d (D + 1)) {g : CS} {m1 m2 m3 a b c : Nat} {n e dp : Int32} (h : IW g r) (ta : tld r a) (tb : tld r b) (tc : tld r c) (k1 : EqM g m1 r a) (k2 : EqM g m2 r b) (k3 : EqM g m3 r c) (had : a ≤ d) (haD : a + D ≤ 8) (hdp : dp.toInt = D) : Ok (fX7_whyBy (fX7_breaksN d) 70 n (some m1) (some m2) (some m3) e dp g) (WyP r g (pif (hasN r a n.toNatClampNeg) (wWhy r (wBrk r a) a b c n.toNatClampNeg (e = 0)) 0)) := by
  have hW := h.2
  have q1 : qk g m1 = 4 := by obtain ⟨ar, -, q, -⟩ := k1; exact q.1
  have q2 : qk g m2 = 4 := by obtain ⟨ar, -, q, -⟩ := k2; exact q.1
  have q3 : qk g m3 = 4 := by obtain ⟨ar, -, q, -⟩ := k3; exact q.1
  have kn1 := m_knownAt (n := n) k1
  have kn2 := m_knownAt (n := n) k2
  have kn3 := m_knownAt (n := n) k3
  generalize en : n.toNatClampNeg = N at *
  unfold fX7_whyBy
  simp only [Ok_ono, Ok_gd]
  refine ⟨m1, rfl, q1, Ok.same kn1 (fun o1 ho1 => ?_)⟩
  by_cases c1 : o1 = none
  · rw [pif_pos c1, Ok_some, pif_neg (fun q => ho1.1.mpr q c1)]
    exact ⟨Cf.rf, hW, rfl⟩
  rw [pif_neg c1]
  have ha := ho1.1.mp c1
  rw [pif_pos ha]
  obtain ⟨H1, e1⟩ := Option.ne_none_iff_exists'.mp c1
  subst e1
  have h1 := ho1.2 H1 rfl
  simp only [Ok_ono, Ok_gd]
  refine ⟨m2, rfl, q2, Ok.same kn2 (fun o2 ho2 => ?_)⟩
  simp only [Ok_ono, Ok_gd]
  refine ⟨m3, rfl, q3, Ok.same kn3 (fun o3 ho3 => ?_)⟩
  have H2 : KnO g r b N o2 := ho2
  have H3 : KnO g r c N o3 := ho3
  unfold wWhy
  refine Ok.bc (m_othX h1 ha H2) (fun w1 => ?_) (fun w1 => ?_)
  · rw [pif_neg (by decide), Ok_some, pif_pos (Or.inl w1)]; exact ⟨Cf.rf, hW, rfl⟩
  rw [pif_pos rfl]
  refine Ok.bc (m_othX h1 ha H3) (fun w2 => ?_) (fun w2 => ?_)
  · rw [pif_neg (by decide), Ok_some, pif_pos (Or.inr w2)]; exact ⟨Cf.rf, hW, rfl⟩
  rw [pif_pos rfl, pif_neg (show ¬ (wOth r a b N ∨ wOth r a c N) from fun q => q.elim w1 w2)]
  refine Ok.bc (m_narX h1 ha H2) (fun v1 => ?_) (fun v1 => ?_)
  · rw [pif_neg (by decide), Ok_some, pif_pos (Or.inl v1)]; exact ⟨Cf.rf, hW, rfl⟩
  rw [pif_pos rfl]
  refine Ok.bc (m_narX h1 ha H3) (fun v2 => ?_) (fun v2 => ?_)
  · rw [pif_neg (by decide), Ok_some, pif_pos (Or.inr v2)]; exact ⟨Cf.rf, hW, rfl⟩
  rw [pif_pos rfl, pif_neg (show ¬ (wNar r a b N ∨ wNar r a c N) from fun q => q.elim v1 v2)]
  have hs3 : hasN r c N → srt r a N = srt r c N := fun q => Classical.byContradiction (fun w => w2 ⟨q, w⟩)
  have hs2 : hasN r b N → srt r a N = srt r b N := fun q => Classical.byContradiction (fun w => w1 ⟨q, w⟩)
  have go : Ok (fX7_whyBy_95 70 (fX7_breaksN d) (some m1) (some m2) (some m3) e dp (some H1) o2 o3 g) (WyP r g (pif (wMat r a b N ∨ wMat r a c N) 4 (pif (srt r a N = 6 ∧ wIn r (wBrk r a) a b c N (e = 0)) 5 0))) := by
    unfold fX7_whyBy_95
    refine Ok.bc (m_crowd h1 k1 k2 ha.2.1) (fun u1 => ?_) (fun u1 => ?_)
    · rw [pif_neg (by decide), Ok_some, pif_pos (Or.inl u1)]; exact ⟨Cf.rf, hW, rfl⟩
    rw [pif_pos rfl]
    refine Ok.bc (m_crowd h1 k1 k3 ha.2.1) (fun u2 => ?_) (fun u2 => ?_)
    · rw [pif_neg (by decide), Ok_some, pif_pos (Or.inr u2)]; exact ⟨Cf.rf, hW, rfl⟩
    rw [pif_pos rfl, pif_neg (show ¬ (wMat r a b N ∨ wMat r a c N) from fun q => q.elim u1 u2)]
    simp only [Ok_ono, Ok_gd]
    refine ⟨H1, rfl, h1.1.1, ?_⟩
    rw [h1.2.2.1.1]
    by_cases c6 : gF r 1 (31 * a + N) = 6
    · have s6 : srt r a N = 6 := by unfold srt; rw [c6]; rfl
      rw [pif_pos c6, Ok_gd]
      refine ⟨h.1.1.2.2.2.2.2.1.1, Ok.call (m_rec ih h h1 ta tb tc ha s6 H2 H3 (fun q => (hs2 q).symm.trans s6) (fun q => (hs3 q).symm.trans s6) had haD hdp) (fun x t ht => ?_)⟩
      obtain ⟨t1, t2, t3⟩ := ht
      rcases t3 with ⟨t3, t4⟩ | ⟨t3, t4⟩
      · have t3 : x = 1 := t3
        rw [t3, pif_neg (by decide), Ok_some, pif_pos ⟨s6, t4⟩]
        exact ⟨t1, t2, rfl⟩
      · have t3 : x = 0 := t3
        rw [t3, pif_pos rfl, Ok_some, pif_neg (fun q => t4 q.2)]
        exact ⟨t1, t2, rfl⟩
    · rw [pif_neg c6, Ok_some, pif_neg (fun q => c6 (srt_6 q.1))]
      exact ⟨Cf.rf, hW, rfl⟩
  by_cases ce : e = 0
  · rw [pif_pos ce, pif_neg (fun q => q.1 ce)]
    exact go
  rw [pif_neg ce]
  by_cases c3 : o3 = none
  · rw [pif_pos c3, pif_neg (fun q => ho3.1.mpr q.2.1 c3)]
    exact go
  rw [pif_neg c3]
  obtain ⟨x3, e3⟩ := Option.ne_none_iff_exists'.mp c3
  have hc := ho3.1.mp c3
  simp only [Ok_ono, Ok_gd]
  refine ⟨x3, e3, (ho3.2 x3 e3).1.1, Ok.bc (m_difX h1 ha (ho3.2 x3 e3) hc (hs3 hc)) (fun f1 => ?_) (fun f1 => ?_)⟩
  · rw [pif_neg (by decide), Ok_some, pif_pos ⟨ce, f1⟩]; exact ⟨Cf.rf, hW, rfl⟩
  · rw [pif_pos rfl, pif_neg (fun q => f1 q.2)]
    exact go
