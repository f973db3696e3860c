/-! the class's calls on records, 2 -/
theorem isF_has {r : RS} {m n : Int32} (h : isF r m n) : hasN r m.toNatClampNeg n.toNatClampNeg ↔ kdN r m.toNatClampNeg n.toNatClampNeg ≠ 0 := by
  obtain ⟨h1, h2, h3, h4⟩ := h
  constructor
  · exact fun q => q.2.2.2
  · exact fun q => ⟨by rw [t_nat]; omega, by rw [t_nat]; omega, h4, q⟩
theorem has_isF {r : RS} {m n : Int32} (hm : mkN r m) (h : hasN r m.toNatClampNeg n.toNatClampNeg) : isF r m n := by
  obtain ⟨h1, h2, h3, h4⟩ := h
  rw [t_nat] at h1 h2
  exact ⟨hm, by omega, by omega, h3⟩
/-- the beginning of a call: the record, the make, the field -/
def CbA (r : RS) (a m n : Int32) : Prop := rcN a ∧ mkN r m ∧ hasN r m.toNatClampNeg n.toNatClampNeg
noncomputable def dropS (r : RS) (a m n : Int32) : Int × Option (Nat × List Int32) := pif (CbA r a m n) (pif (sdN r a m) (seS a.toNatClampNeg (putL r (rbF r a.toNatClampNeg) m.toNatClampNeg n.toNatClampNeg 0 [] (rbN r a.toNatClampNeg) (rbN r a.toNatClampNeg + 1) 0 0)) (-2, none)) (-1, none)
theorem m_sound {a m : Int32} {mk : Nat} {g : CS} {r : RS} (hI : IR g r) (hE : RcE g r) (hR : RcI r) (ha : rcN a) (hm : mkN r m) (hmk : EqM g mk r m.toNatClampNeg) : Ok (fX3_isSound 48 (some (36 + 2 * a.toNatClampNeg)) (some mk) g) (fun q => Sr g q.2 ∧ ((q.1 = 1 ∧ sdN r a m) ∨ (q.1 = 0 ∧ ¬ sdN r a m))) := m_isSound hI (isRc_of ha.l).rw (hE _ ha.l) (rbN_le hR ha.l) hm.t hmk
/-- the fresh row is emptied -/
theorem m_cut72 {g : CS} (h : CI g) : Ok (fX5_cut 72 0 g) (fun q => PuL g 72 256 [] q.2) := m_cut0 (h.rw rw72)
theorem m_drop {a m n : Int32} {g : CS} {r : RS} (hI : IR g r) (hE : RcE g r) (hR : RcI r) : Ok (fX8_drop 32 a m n g) (ClA g (dropS r a m n)) := by
  have h := hI.1
  unfold fX8_drop dropS
  rw [Ok_gd]
  refine ⟨h.1.1, Ok.same (m_recordOf h) (fun o1 h1 => Ok.same hI.mk (fun o2 h2 => Ok.same hI.fd (fun o3 h3 => ?_)))⟩
  have no : ¬ CbA r a m n → ClA g (pif (CbA r a m n) (pif (sdN r a m) (seS a.toNatClampNeg (putL r (rbF r a.toNatClampNeg) m.toNatClampNeg n.toNatClampNeg 0 [] (rbN r a.toNatClampNeg) (rbN r a.toNatClampNeg + 1) 0 0)) (-2, none)) (-1, none)) (((-1) : Int32), g) := fun q => by
    rw [pif_neg q]
    exact ClA.n rfl (ClK.rf h)
  by_cases c1 : rcN a
  case neg =>
    replace h1 := h1.trans (pif_neg c1)
    rw [h1, pif_pos rfl, Ok_some]
    exact no (fun q => c1 q.1)
  replace h1 := h1.trans (pif_pos c1)
  subst h1
  rw [pif_neg (by simp)]
  by_cases c2 : o2 = none
  · rw [pif_pos c2, Ok_some]
    exact no (fun q => h2.1.mpr q.2.1 c2)
  rw [pif_neg c2]
  have hm := h2.1.mp c2
  by_cases c3 : o3 = none
  · rw [pif_pos c3, Ok_some]
    exact no (fun q => h3.1.mpr (has_isF hm q.2.2) c3)
  rw [pif_neg c3]
  have hf := h3.1.mp c3
  obtain ⟨mk, emk⟩ := Option.ne_none_iff_exists'.mp c2
  obtain ⟨H, eH⟩ := Option.ne_none_iff_exists'.mp c3
  subst emk
  subst eH
  have hH := h3.2 H rfl
  have hmk := (h2.2 mk rfl).2
  rw [Ok_ono]
  refine ⟨H, rfl, ?_⟩
  rw [Ok_gd, hH.kd.1]
  refine ⟨hH.1.1, ?_⟩
  by_cases c4 : gF r 1 (31 * m.toNatClampNeg + n.toNatClampNeg) = 0
  · rw [pif_pos c4, Ok_some]
    exact no (fun q => q.2.2.2.2.2 c4)
  rw [pif_neg c4]
  have hN : hasN r m.toNatClampNeg n.toNatClampNeg := (isF_has hf).mpr c4
  rw [pif_pos ⟨c1, hm, hN⟩, h.1.2.2.2.2.2.1, Ok_ono]
  refine ⟨48, rfl, ?_⟩
  rw [Ok_gd]
  refine ⟨h.2.2.2.1.1, Ok.call (m_sound hI hE hR c1 hm hmk) (fun q t ht => ?_)⟩
  obtain ⟨hS, hq⟩ := ht
  have hS : Sr g t := hS
  have hK := ClK.sr hS
  rcases hq with ⟨hq, hs⟩ | ⟨hq, hs⟩
  case inr =>
    have hq : q = 0 := hq
    rw [hq, pif_pos rfl, Ok_some, pif_neg hs]
    exact ClA.n rfl hK
  have hq : q = 1 := hq
  rw [hq, pif_neg (by decide), pif_pos hs, hS.1.1.2.2.2.2.2.2.2.2.1, Ok_ono]
  refine ⟨72, rfl, ?_⟩
  rw [Ok_gd]
  refine ⟨(hS.1.rw rw72).1, Ok.call (m_cut72 hS.1) (fun q2 u hu => ?_)⟩
  have hu : PuL t 72 256 [] u := hu
  have hK2 := hK.tr (ClK.f72 hS.1 hu)
  refine Ok.call (m_settle (n0 := n.toNatClampNeg) (rbN_le hR c1.l) c1.l (hI.c hK2.1) ((hE.k hK2) _ c1.l) hm.t (hmk.cf cfL_s hK2.1.2) (by have := hN.1; rw [t_nat] at this ⊢; omega) hu.2.2 BtL.nil (Nat.zero_le _) hs) (fun q3 v hv => ?_)
  rw [Ok_some]
  exact ClA.k hK2 (SeP.a c1.l hv)
noncomputable def setS (r : RS) (a m n : Int32) (v : Int64) : Int × Option (Nat × List Int32) := pif (CbA r a m n ∧ (kdN r m.toNatClampNeg n.toNatClampNeg).toInt < 5) (pif (sdN r a m) (pif (ofN v (kdN r m.toNatClampNeg n.toNatClampNeg)) (seS a.toNatClampNeg (putL r (rbF r a.toNatClampNeg) m.toNatClampNeg n.toNatClampNeg (grN r m.toNatClampNeg n.toNatClampNeg) (viL (iV (2 * n.toNatClampNeg)) ++ viL (fold v)) (rbN r a.toNatClampNeg) (rbN r a.toNatClampNeg + 1) 0 0)) (-3, none)) (-2, none)) (-1, none)
theorem m_set {a m n : Int32} {v : Int64} {g : CS} {r : RS} (hI : IR g r) (hE : RcE g r) (hR : RcI r) : Ok (fX8_set 32 a m n v g) (ClA g (setS r a m n v)) := by
  have h := hI.1
  unfold fX8_set
  rw [Ok_gd]
  refine ⟨h.1.1, Ok.same (m_recordOf h) (fun o1 h1 => Ok.same hI.mk (fun o2 h2 => Ok.same hI.fd (fun o3 h3 => ?_)))⟩
  have no : ¬ (CbA r a m n ∧ (kdN r m.toNatClampNeg n.toNatClampNeg).toInt < 5) → ClA g (setS r a m n v) (((-1) : Int32), g) := fun q => by
    unfold setS
    rw [pif_neg q]
    exact ClA.n rfl (ClK.rf h)
  by_cases c1 : rcN a
  case neg =>
    replace h1 := h1.trans (pif_neg c1)
    rw [h1, pif_pos rfl, Ok_some]
    exact no (fun q => c1 q.1.1)
  replace h1 := h1.trans (pif_pos c1)
  subst h1
  rw [pif_neg (by simp)]
  by_cases c2 : o2 = none
  · rw [pif_pos c2, Ok_some]
    exact no (fun q => h2.1.mpr q.1.2.1 c2)
  rw [pif_neg c2]
  have hm := h2.1.mp c2
  by_cases c3 : o3 = none
  · rw [pif_pos c3, Ok_some]
    exact no (fun q => h3.1.mpr (has_isF hm q.1.2.2) c3)
  rw [pif_neg c3]
  have hf := h3.1.mp c3
  obtain ⟨mk, emk⟩ := Option.ne_none_iff_exists'.mp c2
  obtain ⟨H, eH⟩ := Option.ne_none_iff_exists'.mp c3
  subst emk
  subst eH
  have hH := h3.2 H rfl
  have hmk := (h2.2 mk rfl).2
  have ek : gF r 1 (31 * m.toNatClampNeg + n.toNatClampNeg) = kdN r m.toNatClampNeg n.toNatClampNeg := rfl
  rw [Ok_ono]
  refine ⟨H, rfl, ?_⟩
  rw [Ok_gd]
  refine ⟨hH.1.1, Ok.bc (m_isNum hH) (fun c4 => ?_) (fun c4 => ?_)⟩
  case refine_2 =>
    rw [ek] at c4
    rw [pif_pos rfl, Ok_some]
    refine no (fun q => c4 ⟨?_, q.2⟩)
    have h0 : kdN r m.toNatClampNeg n.toNatClampNeg ≠ 0 := q.1.2.2.2.2.2
    have h1 := hH.kd.2.1
    rw [ek] at h1
    have : (kdN r m.toNatClampNeg n.toNatClampNeg).toInt ≠ 0 := fun w => h0 (by rw [t_eq, w]; rfl)
    omega
  rw [ek] at c4
  have hN : hasN r m.toNatClampNeg n.toNatClampNeg := (isF_has hf).mpr (fun w => by rw [w] at c4; exact absurd c4.1 (by decide))
  unfold setS
  rw [pif_neg (by decide), pif_pos ⟨⟨c1, hm, hN⟩, c4.2⟩, h.1.2.2.2.2.2.1, Ok_ono]
  refine ⟨48, rfl, ?_⟩
  rw [Ok_gd]
  refine ⟨h.2.2.2.1.1, Ok.call (m_sound hI hE hR c1 hm hmk) (fun q t ht => ?_)⟩
  obtain ⟨hS, hq⟩ := ht
  have hS : Sr g t := hS
  have hK := ClK.sr hS
  rcases hq with ⟨hq, hs⟩ | ⟨hq, hs⟩
  case inr =>
    have hq : q = 0 := hq
    rw [hq, pif_pos rfl, Ok_some, pif_neg hs]
    exact ClA.n rfl hK
  have hq : q = 1 := hq
  rw [hq, pif_neg (by decide), pif_pos hs]
  have hHt : EqF t H r (31 * m.toNatClampNeg + n.toNatClampNeg) n.toNatClampNeg := hH.cf cfL_s hS.sf.2
  refine Ok.bc (m_holds (v := v) hHt (by rw [ek]; exact c4.1) (by rw [ek]; exact c4.2)) (fun c5 => ?_) (fun c5 => ?_)
  case refine_2 =>
    rw [ek] at c5
    rw [pif_pos rfl, Ok_some, pif_neg c5]
    exact ClA.n rfl hK
  rw [ek] at c5
  rw [pif_neg (by decide), pif_pos c5, hS.1.1.2.2.2.2.2.2.2.2.1, Ok_ono]
  refine ⟨72, rfl, ?_⟩
  rw [Ok_gd]
  refine ⟨(hS.1.rw rw72).1, Ok.call (m_cut72 hS.1) (fun q2 u hu => ?_)⟩
  have hu : PuL t 72 256 [] u := hu
  have hK2 := hK.tr (ClK.f72 hS.1 hu)
  have hCu := hK2.1.1
  have hn30 := hN.2.1
  rw [hCu.1.2.2.2.2.2.2.2.2.1, Ok_ono]
  refine ⟨72, rfl, ?_⟩
  rw [Ok_gd]
  refine ⟨(hCu.rw rw72).1, Ok.callv (m_pushK (hCu.rw rw72) hu.2.2 (hH.cf cfL_s hK2.1.2) hn30 (by decide)) (fun w hw => ?_)⟩
  rw [ek, pif_neg (by omega), Nat.add_zero, List.nil_append] at hw
  have hK3 := hK2.tr (ClK.f72 hCu hw)
  have hCw := hK3.1.1
  rw [hCw.1.2.2.2.2.2.2.2.2.1, Ok_ono]
  refine ⟨72, rfl, ?_⟩
  rw [Ok_gd]
  have l10 := (viL_pos (v := fold v)).2
  have l1 : (viL (iV (2 * n.toNatClampNeg))).length = 1 := by rw [viL_k (by omega)]; rfl
  refine ⟨(hCw.rw rw72).1, Ok.callv (m_pushN (v := v) (hCw.rw rw72) hw.2.2 (by omega)) (fun y hy => ?_)⟩
  have hK4 := hK3.tr (ClK.f72 hCw hy)
  have hHy : EqF y H r (31 * m.toNatClampNeg + n.toNatClampNeg) n.toNatClampNeg := hH.cf cfL_s hK4.1.2
  have eg : qI y H 2 = grN r m.toNatClampNeg n.toNatClampNeg := hHy.2.2.2.1
  rw [eg]
  refine Ok.call (m_settle (n0 := n.toNatClampNeg) (rbN_le hR c1.l) c1.l (hI.c hK4.1) ((hE.k hK4) _ c1.l) hm.t (hmk.cf cfL_s hK4.1.2) (by have := hN.1; rw [t_nat] at this ⊢; omega) hy.2.2 (viL_bt.app viL_bt) (by rw [List.length_append]; omega) hs) (fun q3 z hz => ?_)
  rw [Ok_some]
  exact ClA.k hK4 (SeP.a c1.l hz)
noncomputable def writeS (r : RS) (a m o : Int32) : Int × Option (Nat × List Int32) := pif (rcN a ∧ rcN o ∧ mkN r m) (pif (sdN r a m) (((wrR r (rbF r a.toNatClampNeg) m.toNatClampNeg 0 (rbN r a.toNatClampNeg)).length : Int), some (o.toNatClampNeg, wrR r (rbF r a.toNatClampNeg) m.toNatClampNeg 0 (rbN r a.toNatClampNeg))) (-2, none)) (-1, none)
theorem m_write {a m o : Int32} {g : CS} {r : RS} (hI : IR g r) (hE : RcE g r) (hR : RcI r) : Ok (fX8_write 32 a m o g) (ClA g (writeS r a m o)) := by
  have h := hI.1
  unfold fX8_write
  rw [Ok_gd]
  refine ⟨h.1.1, Ok.same (m_recordOf h) (fun o1 h1 => Ok.same (m_recordOf h) (fun o4 h4 => Ok.same hI.mk (fun o2 h2 => ?_)))⟩
  have no : ¬ (rcN a ∧ rcN o ∧ mkN r m) → ClA g (writeS r a m o) (((-1) : Int32), g) := fun q => by
    unfold writeS
    rw [pif_neg q]
    exact ClA.n rfl (ClK.rf h)
  by_cases c1 : rcN a
  case neg =>
    replace h1 := h1.trans (pif_neg c1)
    rw [h1, pif_pos rfl, Ok_some]
    exact no (fun q => c1 q.1)
  replace h1 := h1.trans (pif_pos c1)
  subst h1
  rw [pif_neg (by simp)]
  by_cases c4 : rcN o
  case neg =>
    replace h4 := h4.trans (pif_neg c4)
    rw [h4, pif_pos rfl, Ok_some]
    exact no (fun q => c4 q.2.1)
  replace h4 := h4.trans (pif_pos c4)
  subst h4
  rw [pif_neg (by simp)]
  by_cases c2 : o2 = none
  · rw [pif_pos c2, Ok_some]
    exact no (fun q => h2.1.mpr q.2.2 c2)
  rw [pif_neg c2]
  have hm := h2.1.mp c2
  obtain ⟨mk, emk⟩ := Option.ne_none_iff_exists'.mp c2
  subst emk
  have hmk := (h2.2 mk rfl).2
  unfold writeS
  rw [pif_pos ⟨c1, c4, hm⟩, h.1.2.2.2.2.2.1, Ok_ono]
  refine ⟨48, rfl, ?_⟩
  rw [Ok_gd]
  refine ⟨h.2.2.2.1.1, Ok.call (m_sound hI hE hR c1 hm hmk) (fun q t ht => ?_)⟩
  obtain ⟨hS, hq⟩ := ht
  have hS : Sr g t := hS
  have hK := ClK.sr hS
  rcases hq with ⟨hq, hs⟩ | ⟨hq, hs⟩
  case inr =>
    have hq : q = 0 := hq
    rw [hq, pif_pos rfl, Ok_some, pif_neg hs]
    exact ClA.n rfl hK
  have hq : q = 1 := hq
  have hB := hE _ c1.l
  have hn := rbN_le hR c1.l
  have hlen := wrR_len hI.2.1 hs hm.t (Nat.zero_le _) hn
  have hbt := wrR_bt (fun i hi => (hB.2 i hi).2) hs (Nat.le_refl _)
  rw [hq, pif_neg (by decide), pif_pos hs, hS.1.1.2.2.2.2.2.2.1, Ok_ono]
  refine ⟨58, rfl, ?_⟩
  rw [Ok_gd, hS.1.1.2.2.2.2.2.2.2.2.2]
  refine ⟨hS.1.2.2.2.2.1.1, Ok.callv (m_rewrite hn (isRc_of c1.l) (hI.c hK.1) ((hE.k hK) _ c1.l) hm.t (hmk.cf cfL_s hK.1.2) hs) (fun u hu => ?_)⟩
  obtain ⟨hSw, hl⟩ := hu
  have hK2 := hK.tr (ClK.sw hSw)
  have hCu := hSw.1
  have h74 := hCu.rw isW74
  rw [hCu.1.2.2.2.2.2.2.2.2.2, Ok_ono]
  refine ⟨74, rfl, ?_⟩
  rw [Ok_gd]
  refine ⟨h74.1, Ok.call (c_size h74) (fun q2 u2 hu2 => ?_)⟩
  have e3 : q2 = qI u 74 1 := congrArg Prod.fst hu2
  have e4 : u2 = u := congrArg Prod.snd hu2
  subst e4
  subst e3
  rw [Ok_ono]
  refine ⟨36 + 2 * o.toNatClampNeg, rfl, ?_⟩
  rw [Ok_gd]
  have ho4 := c4.l
  have hrow := hCu.rw (isRc_of ho4).rw
  refine ⟨hrow.1, Ok.callv (m_become (A := 0) hrow h74 (Or.inl ⟨by omega, by omega, by omega⟩) (hl.b hbt) rfl hl.1 (Nat.zero_le _) (Nat.le_refl _) (by omega)) (fun v hv => ?_)⟩
  rw [seg_ix] at hv
  have hEE := hK2.e (ClE.row hCu ho4 hbt hv) ho4
  refine Ok.call (c_size (hEE.1.1.rw (isRc_of ho4).rw)) (fun q3 u3 hu3 => ?_)
  have e5 : u3 = v := congrArg Prod.snd hu3
  have e6 : q3 = qI v (36 + 2 * o.toNatClampNeg) 1 := congrArg Prod.fst hu3
  subst e5
  rw [Ok_some]
  exact ClA.e (by rw [e6]; exact hEE.2.1.1.1) ho4 hEE
