/-! the class's calls on records, 4: nest, say, load -/
def iMk (r : RS) (m n : Int32) : Int32 := gF r 3 (31 * m.toNatClampNeg + n.toNatClampNeg)
noncomputable def neW (r : RS) (m n o : Int32) : List Int32 := wrR r (rbF r o.toNatClampNeg) (iMk r m n).toNatClampNeg 0 (rbN r o.toNatClampNeg)
noncomputable def neF (r : RS) (m n o : Int32) : List Int32 := viL (iV (2 * n.toNatClampNeg + 1)) ++ viL (iV (neW r m n o).length) ++ neW r m n o
def nestC (r : RS) (a m n o : Int32) : Prop := (rcN a ∧ rcN o ∧ a ≠ o) ∧ mkN r m ∧ hasN r m.toNatClampNeg n.toNatClampNeg ∧ kdN r m.toNatClampNeg n.toNatClampNeg = 6
noncomputable def nestS (r : RS) (a m n o : Int32) : Int × Option (Nat × List Int32) := pif (nestC r a m n o) (pif (sdN r a m ∧ sdN r o (iMk r m n)) (seS a.toNatClampNeg (putL r (rbF r a.toNatClampNeg) m.toNatClampNeg n.toNatClampNeg (grN r m.toNatClampNeg n.toNatClampNeg) (neF r m n o) (rbN r a.toNatClampNeg) (rbN r a.toNatClampNeg + 1) 0 0)) (-2, none)) (-1, none)
theorem iMk_mk {r : RS} {m n : Int32} (hM : MkI r) (hm : mkN r m) (hN : hasN r m.toNatClampNeg n.toNatClampNeg) (h6 : kdN r m.toNatClampNeg n.toNatClampNeg = 6) : mkN r (iMk r m n) := by
  have hl := hm.t.1
  obtain ⟨-, h2, -⟩ := hM m.toNatClampNeg n.toNatClampNeg hl hm.2.2 hN
  obtain ⟨h3, h4, h5⟩ := h2 h6
  exact ⟨h3, by unfold iMk; omega, h5⟩
theorem m_nest {a m n o : Int32} {g : CS} {r : RS} (hI : IR g r) (hE : RcE g r) (hR : RcI r) : Ok (fX8_nest 32 a m n o g) (ClA g (nestS r a m n o)) := by
  have h := hI.1
  unfold fX8_nest
  rw [Ok_gd]
  refine ⟨h.1.1, Ok.same (m_recordOf h) (fun o1 h1 => Ok.same (m_recordOf h) (fun o4 h4 => Ok.same hI.mk (fun o2 h2 => Ok.same hI.fd (fun o3 h3 => ?_))))⟩
  have no : ¬ nestC r a m n o → ClA g (nestS r a m n o) (((-1) : Int32), g) := fun q => by
    unfold nestS
    rw [pif_neg q]
    exact ClA.n rfl (ClK.rf h)
  by_cases c1 : rcN a
  case neg =>
    replace h1 := h1.trans (pif_neg c1)
    rw [h1, pif_pos rfl, Ok_some]
    exact no (fun q => c1 q.1.1)
  replace h1 := h1.trans (pif_pos c1)
  subst h1
  rw [pif_neg (by simp)]
  by_cases c4 : rcN o
  case neg =>
    replace h4 := h4.trans (pif_neg c4)
    rw [h4, pif_pos rfl, Ok_some]
    exact no (fun q => c4 q.1.2.1)
  replace h4 := h4.trans (pif_pos c4)
  subst h4
  rw [pif_neg (by simp)]
  by_cases c2 : o2 = none
  · rw [pif_pos c2, Ok_some]
    exact no (fun q => h2.1.mpr q.2.1 c2)
  rw [pif_neg c2]
  have hm := h2.1.mp c2
  by_cases c3 : o3 = none
  · rw [pif_pos c3, Ok_some]
    exact no (fun q => h3.1.mpr (has_isF hm q.2.2.1) c3)
  rw [pif_neg c3]
  have hf := h3.1.mp c3
  obtain ⟨mk, emk⟩ := Option.ne_none_iff_exists'.mp c2
  obtain ⟨H, eH⟩ := Option.ne_none_iff_exists'.mp c3
  subst emk
  subst eH
  have hH := h3.2 H rfl
  have hmk := (h2.2 mk rfl).2
  have ek : gF r 1 (31 * m.toNatClampNeg + n.toNatClampNeg) = kdN r m.toNatClampNeg n.toNatClampNeg := rfl
  rw [Ok_ono]
  refine ⟨H, rfl, ?_⟩
  rw [Ok_gd, hH.kd.1, ek]
  refine ⟨hH.1.1, ?_⟩
  by_cases c6 : kdN r m.toNatClampNeg n.toNatClampNeg = 6
  case neg =>
    rw [pif_neg c6, Ok_some]
    exact no (fun q => c6 q.2.2.2)
  rw [pif_pos c6]
  by_cases cao : a = o
  · rw [pif_pos cao, Ok_some]
    exact no (fun q => q.1.2.2 cao)
  rw [pif_neg cao]
  have hN : hasN r m.toNatClampNeg n.toNatClampNeg := (isF_has hf).mpr (fun w => by rw [w] at c6; exact absurd c6 (by decide))
  have e3 : qI g H 3 = iMk r m n := hH.2.2.2.2.1 c6
  have hmi := iMk_mk hI.2.1 hm hN c6
  rw [e3]
  refine Ok.same hI.mk (fun o5 h5 => ?_)
  have c5 : o5 ≠ none := h5.1.mpr hmi
  obtain ⟨mi, emi⟩ := Option.ne_none_iff_exists'.mp c5
  subst emi
  have hmki := (h5.2 mi rfl).2
  unfold nestS
  rw [pif_neg c5, pif_pos (show nestC r a m n o from ⟨⟨c1, c4, cao⟩, hm, hN, c6⟩), h.1.2.2.2.2.2.1, Ok_ono]
  refine ⟨48, rfl, ?_⟩
  rw [Ok_gd]
  refine ⟨h.2.2.2.1.1, Ok.call (m_sound hI hE hR c1 hm hmk) (fun q t ht => ?_)⟩
  obtain ⟨hS, hq⟩ := ht
  have hS : Sr g t := hS
  have hK := ClK.sr hS
  rcases hq with ⟨hq, hs⟩ | ⟨hq, hs⟩
  case inr =>
    have hq : q = 0 := hq
    rw [hq, pif_pos rfl, Ok_some, pif_neg (fun w => hs w.1)]
    exact ClA.n rfl hK
  have hq : q = 1 := hq
  rw [hq, pif_neg (by decide), hS.1.1.2.2.2.2.2.1, Ok_ono]
  refine ⟨48, rfl, ?_⟩
  rw [Ok_gd]
  refine ⟨hS.1.2.2.2.1.1, Ok.call (m_sound (hI.c hK.1) (hE.k hK) hR c4 hmi (hmki.cf cfL_s hK.1.2)) (fun q2 t2 ht2 => ?_)⟩
  obtain ⟨hS2, hq2⟩ := ht2
  have hS2 : Sr t t2 := hS2
  have hK2 := hK.tr (ClK.sr hS2)
  rcases hq2 with ⟨hq2, hs2⟩ | ⟨hq2, hs2⟩
  case inr =>
    have hq2 : q2 = 0 := hq2
    rw [hq2, pif_pos rfl, Ok_some, pif_neg (fun w => hs2 w.2)]
    exact ClA.n rfl hK2
  have hq2 : q2 = 1 := hq2
  have hB := hE _ c4.l
  have hn := rbN_le hR c4.l
  have hlen := wrR_len hI.2.1 hs2 hmi.t (Nat.zero_le _) hn
  have hbt := wrR_bt (fun i hi => (hB.2 i hi).2) hs2 (Nat.le_refl _)
  have eW : wrR r (rbF r o.toNatClampNeg) (iMk r m n).toNatClampNeg 0 (rbN r o.toNatClampNeg) = neW r m n o := rfl
  rw [hq2, pif_neg (by decide), pif_pos ⟨hs, hs2⟩, hS2.1.1.2.2.2.2.2.2.1, Ok_ono]
  refine ⟨58, rfl, ?_⟩
  rw [Ok_gd, hS2.1.1.2.2.2.2.2.2.2.2.2]
  refine ⟨hS2.1.2.2.2.2.1.1, Ok.callv (m_rewrite hn (isRc_of c4.l) (hI.c hK2.1) ((hE.k hK2) _ c4.l) hmi.t (hmki.cf cfL_s hK2.1.2) hs2) (fun u hu => ?_)⟩
  rw [eW] at hu hlen hbt
  obtain ⟨hSw, hl⟩ := hu
  have hK3 := hK2.tr (ClK.sw hSw)
  have hCu := hSw.1
  obtain ⟨w, ew⟩ : ∃ w, w = neW r m n o := ⟨_, rfl⟩
  have eF : neF r m n o = viL (iV (2 * n.toNatClampNeg + 1)) ++ viL (iV w.length) ++ w := by rw [ew]; rfl
  rw [← ew] at hl hlen hbt
  rw [eF]
  rw [hCu.1.2.2.2.2.2.2.2.2.1, Ok_ono]
  refine ⟨72, rfl, ?_⟩
  rw [Ok_gd]
  refine ⟨(hCu.rw rw72).1, Ok.call (m_cut72 hCu) (fun q3 v hv => ?_)⟩
  have hv : PuL u 72 256 [] v := hv
  have hK4 := hK3.tr (ClK.f72 hCu hv)
  have hCv := hK4.1.1
  have hl4 : RwL v 74 w := hl.fr hv.1 (by decide) (by decide)
  rw [hCv.1.2.2.2.2.2.2.2.2.1, Ok_ono]
  refine ⟨72, rfl, ?_⟩
  rw [Ok_gd]
  refine ⟨(hCv.rw rw72).1, Ok.callv (m_pushK (hCv.rw rw72) hv.2.2 (hH.cf cfL_s hK4.1.2) hN.2.1 (by decide)) (fun x hx => ?_)⟩
  rw [ek, c6, pif_pos (by decide), List.nil_append] at hx
  have hK5 := hK4.tr (ClK.f72 hCv hx)
  have hCx := hK5.1.1
  have hl5 : RwL x 74 w := hl4.fr hx.1 (by decide) (by decide)
  have h74 := hCx.rw isW74
  have lk : (viL (iV (2 * n.toNatClampNeg + 1))).length = 1 := by
    have := hN.2.1
    rw [viL_k (by omega)]
    rfl
  have l10 := (viL_pos (v := iV w.length)).2
  rw [hCx.1.2.2.2.2.2.2.2.2.2, Ok_ono]
  refine ⟨74, rfl, ?_⟩
  rw [Ok_gd]
  refine ⟨h74.1, Ok.call (c_size h74) (fun q4 x2 hx2 => ?_)⟩
  have e4 : q4 = qI x 74 1 := congrArg Prod.fst hx2
  have e5 : x2 = x := congrArg Prod.snd hx2
  subst e5
  have ev : q4.toInt64 = iV w.length := iV_of (by omega) (by rw [j_of, e4, hl5.1])
  rw [ev, hCx.1.2.2.2.2.2.2.2.2.1, Ok_ono]
  refine ⟨72, rfl, ?_⟩
  rw [Ok_gd]
  refine ⟨(hCx.rw rw72).1, Ok.callv (m_pushV (hCx.rw rw72) hx.2.2 (by omega)) (fun y hy => ?_)⟩
  have hK6 := hK5.tr (ClK.f72 hCx hy)
  have hCy := hK6.1.1
  have hl6 : RwL y 74 w := hl5.fr hy.1 (by decide) (by decide)
  have h74y := hCy.rw isW74
  rw [hCy.1.2.2.2.2.2.2.2.2.2, Ok_ono]
  refine ⟨74, rfl, ?_⟩
  rw [Ok_gd]
  refine ⟨h74y.1, Ok.call (c_size h74y) (fun q5 y2 hy2 => ?_)⟩
  have e6 : q5 = qI y 74 1 := congrArg Prod.fst hy2
  have e7 : y2 = y := congrArg Prod.snd hy2
  subst e7
  rw [hCy.1.2.2.2.2.2.2.2.2.1, Ok_ono]
  refine ⟨72, rfl, ?_⟩
  rw [Ok_gd]
  refine ⟨(hCy.rw rw72).1, Ok.callv (m_app (a := 0) (b := w.length) (hCy.rw rw72) hy.2.2 h74y (hl6.b hbt) (by decide) rfl (by rw [e6]; exact hl6.1) (Nat.zero_le _) (Nat.le_refl _) (by omega) (by rw [List.length_append]; omega)) (fun z hz => ?_)⟩
  rw [seg_ix] at hz
  have hK7 := hK6.tr (ClK.f72 hCy hz)
  have hHz : EqF z H r (31 * m.toNatClampNeg + n.toNatClampNeg) n.toNatClampNeg := hH.cf cfL_s hK7.1.2
  have eg : qI z H 2 = grN r m.toNatClampNeg n.toNatClampNeg := hHz.2.2.2.1
  rw [eg]
  refine Ok.call (m_settle (n0 := n.toNatClampNeg) (rbN_le hR c1.l) c1.l (hI.c hK7.1) ((hE.k hK7) _ c1.l) hm.t (hmk.cf cfL_s hK7.1.2) (by have := hN.1; rw [t_nat] at this ⊢; omega) hz.2.2 ((viL_bt.app viL_bt).app hbt) (by rw [List.length_append, List.length_append]; omega) hs) (fun q6 s hs6 => ?_)
  rw [Ok_some]
  exact ClA.k hK7 (SeP.a c1.l hs6)
/-! the tape -/
def tpK (r : RS) : Nat := (gI r 10).toNatClampNeg
def tpL (r : RS) : List Int32 := seg (gF r 9) 0 (tpK r)
theorem TpE.b {g : CS} {r : RS} (h : CI g) (hT : TpE g r) : RwB g 33 (tpK r) (gF r 9) := by
  have h0 := h.tape.2.2.2.2.1
  rw [hT.1] at h0
  refine ⟨by rw [hT.1]; unfold tpK; rw [t_nat]; omega, fun k hk => hT.2 k ?_⟩
  unfold tpK at hk
  rw [t_nat] at hk
  omega
theorem tpK_le {g : CS} {r : RS} (h : CI g) (hT : TpE g r) : tpK r ≤ 400 := by
  have h0 := h.tape.2.2.2.2.2.1
  rw [(hT.b h).1] at h0
  omega
theorem tpL_len {r : RS} : (tpL r).length = tpK r := by unfold tpL; rw [seg_len]; omega
theorem tpL_bt {g : CS} {r : RS} (h : CI g) (hT : TpE g r) : BtL (tpL r) := btl_seg2 (fun i hi => ((hT.b h).2 i hi).2) (Nat.le_refl _)
theorem m_load {a : Int32} {g : CS} {r : RS} (h : CI g) (hT : TpE g r) : Ok (fX8_load 32 a g) (fun q => pif (rcN a ∧ tpK r ≤ 120) (∃ u, ClE g u a.toNatClampNeg (tpL r) ∧ q.2 = wI u 33 1 0 ∧ q.1.toInt = tpK r) (q = (-1, g))) := by
  have hB := hT.b h
  have h0 := h.tape
  unfold fX8_load
  rw [Ok_gd]
  refine ⟨h.1.1, Ok.same (m_recordOf h) (fun o1 h1 => ?_)⟩
  by_cases c1 : rcN a
  case neg =>
    replace h1 := h1.trans (pif_neg c1)
    simp only [pif_neg (show ¬ (rcN a ∧ tpK r ≤ 120) from fun q => c1 q.1)]
    rw [h1, pif_pos rfl, Ok_some]
  replace h1 := h1.trans (pif_pos c1)
  subst h1
  rw [pif_neg (by simp), h.1.2.1, Ok_ono]
  refine ⟨33, rfl, ?_⟩
  rw [Ok_gd]
  refine ⟨h0.1, Ok.call (c_size h0) (fun q t ht => ?_)⟩
  have e1 : q = qI g 33 1 := congrArg Prod.fst ht
  have e2 : t = g := congrArg Prod.snd ht
  subst e2
  subst e1
  have hsz := hB.1
  have ha4 := c1.l
  by_cases c : tpK r ≤ 120
  case neg =>
    simp only [pif_neg (show ¬ (rcN a ∧ tpK r ≤ 120) from fun q => c q.2)]
    rw [pif_neg (by rw [t_le, hsz, show (120 : Int32).toInt = 120 from rfl]; omega), Ok_some]
  simp only [pif_pos (show rcN a ∧ tpK r ≤ 120 from ⟨c1, c⟩)]
  rw [pif_pos (by rw [t_le, hsz, show (120 : Int32).toInt = 120 from rfl]; omega), h.1.2.1, Ok_ono]
  refine ⟨33, rfl, ?_⟩
  rw [Ok_gd]
  refine ⟨h0.1, Ok.call (c_size h0) (fun q2 t2 ht2 => ?_)⟩
  have e3 : q2 = qI t 33 1 := congrArg Prod.fst ht2
  have e4 : t2 = t := congrArg Prod.snd ht2
  subst e4
  subst e3
  have hrow := h.rw (isRc_of ha4).rw
  rw [Ok_ono]
  refine ⟨_, rfl, ?_⟩
  rw [Ok_gd]
  refine ⟨hrow.1, Ok.callv (m_become (A := 0) hrow h0 (Or.inl ⟨by omega, by omega, by omega⟩) hB rfl hsz (Nat.zero_le _) (Nat.le_refl _) (by omega)) (fun u hu => ?_)⟩
  have hEE : ClE t2 u a.toNatClampNeg (tpL r) := ClE.row h ha4 (tpL_bt h hT) hu
  have hCu := hEE.1.1
  rw [hCu.1.2.1, Ok_ono]
  refine ⟨33, rfl, ?_⟩
  rw [Ok_gd]
  refine ⟨hCu.tape.1, Ok.call (c_cutT hCu) (fun q3 w hw => ?_)⟩
  have ew : w = wI u 33 1 0 := congrArg Prod.snd hw
  subst ew
  have hCw : CI (wI u 33 1 0) := hCu.tp (Cf.rf.wI (by simp)) (hCu.tape.wS (by decide) (by decide))
  refine Ok.call (c_size (hCw.rw (isRc_of ha4).rw)) (fun q4 y hy => ?_)
  have ey : y = wI u 33 1 0 := congrArg Prod.snd hy
  have eq4 : q4 = qI (wI u 33 1 0) (36 + 2 * a.toNatClampNeg) 1 := congrArg Prod.fst hy
  rw [Ok_some, ey]
  refine ⟨u, hEE, rfl, ?_⟩
  show q4.toInt = _
  rw [eq4, qI_wo (by omega), hEE.2.1.1.1, tpL_len]
/-- the text of the tape becomes a field -/
noncomputable def saF (r : RS) (n : Int32) : List Int32 := viL (iV (2 * n.toNatClampNeg + 1)) ++ viL (iV (tpK r)) ++ tpL r
def sayC (r : RS) (a m n : Int32) : Prop := CbA r a m n ∧ kdN r m.toNatClampNeg n.toNatClampNeg = 5
noncomputable def sayS (r : RS) (a m n : Int32) : Int × Option (Nat × List Int32) := pif (sayC r a m n) (pif (sdN r a m) (pif (tpK r ≤ 0 + 12 ∧ TxN (gF r 9) 0 (tpK r)) (seS a.toNatClampNeg (putL r (rbF r a.toNatClampNeg) m.toNatClampNeg n.toNatClampNeg (grN r m.toNatClampNeg n.toNatClampNeg) (saF r n) (rbN r a.toNatClampNeg) (rbN r a.toNatClampNeg + 1) 0 0)) (-3, none)) (-2, none)) (-1, none)
def SyP (g : CS) (s : Int × Option (Nat × List Int32)) (q : Int32 × CS) : Prop := ∃ u, ClA g s (q.1, u) ∧ q.2 = wI u 33 1 0
theorem m_say169 {v : Int32} {g u : CS} {s : Int × Option (Nat × List Int32)} (hC : CI u) (h : ClA g s (v, u)) : Ok (fX8_say_169 32 v u) (SyP g s) := by
  unfold fX8_say_169
  rw [Ok_gd, hC.1.2.1, Ok_ono]
  refine ⟨hC.1.1, 33, rfl, ?_⟩
  rw [Ok_gd]
  refine ⟨hC.tape.1, Ok.call (c_cutT hC) (fun q w hw => ?_)⟩
  have ew : w = wI u 33 1 0 := congrArg Prod.snd hw
  rw [Ok_some]
  exact ⟨u, h, ew⟩
theorem m_say {a m n : Int32} {g : CS} {r : RS} (hI : IR g r) (hE : RcE g r) (hR : RcI r) (hT : TpE g r) : Ok (fX8_say 32 a m n g) (SyP g (sayS r a m n)) := by
  have h := hI.1
  unfold fX8_say
  rw [Ok_gd]
  refine ⟨h.1.1, Ok.same (m_recordOf h) (fun o1 h1 => Ok.same hI.mk (fun o2 h2 => Ok.same hI.fd (fun o3 h3 => ?_)))⟩
  have no : ¬ sayC r a m n → Ok (fX8_say_49 32 g) (SyP g (sayS r a m n)) := fun q => by
    unfold fX8_say_49
    refine m_say169 h ?_
    unfold sayS
    rw [pif_neg q]
    exact ClA.n rfl (ClK.rf h)
  by_cases c1 : rcN a
  case neg =>
    replace h1 := h1.trans (pif_neg c1)
    rw [h1, pif_pos rfl]
    exact no (fun q => c1 q.1.1)
  replace h1 := h1.trans (pif_pos c1)
  subst h1
  rw [pif_neg (by simp)]
  by_cases c2 : o2 = none
  · rw [pif_pos c2]
    exact no (fun q => h2.1.mpr q.1.2.1 c2)
  rw [pif_neg c2]
  have hm := h2.1.mp c2
  by_cases c3 : o3 = none
  · rw [pif_pos c3]
    exact no (fun q => h3.1.mpr (has_isF hm q.1.2.2) c3)
  rw [pif_neg c3]
  have hf := h3.1.mp c3
  obtain ⟨mk, emk⟩ := Option.ne_none_iff_exists'.mp c2
  obtain ⟨H, eH⟩ := Option.ne_none_iff_exists'.mp c3
  subst emk
  subst eH
  have hH := h3.2 H rfl
  have hmk := (h2.2 mk rfl).2
  have ek : gF r 1 (31 * m.toNatClampNeg + n.toNatClampNeg) = kdN r m.toNatClampNeg n.toNatClampNeg := rfl
  rw [Ok_ono]
  refine ⟨H, rfl, ?_⟩
  rw [Ok_gd, hH.kd.1, ek]
  refine ⟨hH.1.1, ?_⟩
  by_cases c6 : kdN r m.toNatClampNeg n.toNatClampNeg = 5
  case neg =>
    rw [pif_neg c6]
    exact no (fun q => c6 q.2)
  rw [pif_pos c6]
  have hN : hasN r m.toNatClampNeg n.toNatClampNeg := (isF_has hf).mpr (fun w => by rw [w] at c6; exact absurd c6 (by decide))
  unfold sayS
  rw [pif_pos (show sayC r a m n from ⟨⟨c1, hm, hN⟩, c6⟩), h.1.2.2.2.2.2.1, Ok_ono]
  refine ⟨48, rfl, ?_⟩
  rw [Ok_gd]
  refine ⟨h.2.2.2.1.1, Ok.call (m_sound hI hE hR c1 hm hmk) (fun q t ht => ?_)⟩
  obtain ⟨hS, hq⟩ := ht
  have hS : Sr g t := hS
  have hK := ClK.sr hS
  rcases hq with ⟨hq, hs⟩ | ⟨hq, hs⟩
  case inr =>
    have hq : q = 0 := hq
    rw [hq, pif_pos rfl, pif_neg hs]
    exact m_say169 hS.1 (ClA.n rfl hK)
  have hq : q = 1 := hq
  have n33 : (33 : Nat) ∉ cfL ∧ (33 : Nat) + 1 ∉ cfL := by decide
  have tB : ∀ {y : CS}, ClK g y → RwB y 33 (tpK r) (gF r 9) := fun hy => (hT.b h).fr hy.1.2 n33.1 n33.2
  have hB := tB hK
  have hle := tpK_le h hT
  rw [hq, pif_neg (by decide), pif_pos hs, hS.1.1.2.1, Ok_ono]
  refine ⟨33, rfl, ?_⟩
  rw [Ok_gd]
  refine ⟨hS.1.tape.1, Ok.call (c_size hS.1.tape) (fun q0 t0 ht0 => ?_)⟩
  have e1 : q0 = qI t 33 1 := congrArg Prod.fst ht0
  have e2 : t0 = t := congrArg Prod.snd ht0
  subst e2
  subst e1
  refine Ok.bc (m_isText (a := 0) hS.1.tape hB rfl hB.1 (Nat.zero_le _) (Nat.le_refl _) (by omega)) (fun c5 => ?_) (fun c5 => ?_)
  case refine_2 =>
    rw [pif_pos rfl, pif_neg c5]
    exact m_say169 hS.1 (ClA.n rfl hK)
  rw [pif_neg (by decide), pif_pos c5, hS.1.1.2.2.2.2.2.2.2.2.1, Ok_ono]
  refine ⟨72, rfl, ?_⟩
  rw [Ok_gd]
  refine ⟨(hS.1.rw rw72).1, Ok.call (m_cut72 hS.1) (fun q2 u hu => ?_)⟩
  have hu : PuL t0 72 256 [] u := hu
  have hK2 := hK.tr (ClK.f72 hS.1 hu)
  have hCu := hK2.1.1
  have hn30 := hN.2.1
  rw [hCu.1.2.2.2.2.2.2.2.2.1, Ok_ono]
  refine ⟨72, rfl, ?_⟩
  rw [Ok_gd]
  refine ⟨(hCu.rw rw72).1, Ok.callv (m_pushK (hCu.rw rw72) hu.2.2 (hH.cf cfL_s hK2.1.2) hn30 (by decide)) (fun w hw => ?_)⟩
  rw [ek, c6, pif_pos (by decide), List.nil_append] at hw
  have hK3 := hK2.tr (ClK.f72 hCu hw)
  have hCw := hK3.1.1
  have hB3 := tB hK3
  have l1 : (viL (iV (2 * n.toNatClampNeg + 1))).length = 1 := by rw [viL_k (by omega)]; rfl
  have l10 := (viL_pos (v := iV (tpK r))).2
  rw [hCw.1.2.1, Ok_ono]
  refine ⟨33, rfl, ?_⟩
  rw [Ok_gd]
  refine ⟨hCw.tape.1, Ok.call (c_size hCw.tape) (fun q4 w2 hw2 => ?_)⟩
  have e4 : q4 = qI w 33 1 := congrArg Prod.fst hw2
  have e5 : w2 = w := congrArg Prod.snd hw2
  subst e5
  have ev : q4.toInt64 = iV (tpK r) := iV_of (by omega) (by rw [j_of, e4, hB3.1])
  rw [ev, hCw.1.2.2.2.2.2.2.2.2.1, Ok_ono]
  refine ⟨72, rfl, ?_⟩
  rw [Ok_gd]
  refine ⟨(hCw.rw rw72).1, Ok.callv (m_pushV (hCw.rw rw72) hw.2.2 (by omega)) (fun y hy => ?_)⟩
  have hK4 := hK3.tr (ClK.f72 hCw hy)
  have hCy := hK4.1.1
  have hB4 := tB hK4
  rw [hCy.1.2.1, Ok_ono]
  refine ⟨33, rfl, ?_⟩
  rw [Ok_gd]
  refine ⟨hCy.tape.1, Ok.call (c_size hCy.tape) (fun q5 y2 hy2 => ?_)⟩
  have e6 : q5 = qI y 33 1 := congrArg Prod.fst hy2
  have e7 : y2 = y := congrArg Prod.snd hy2
  subst e7
  rw [hCy.1.2.2.2.2.2.2.2.2.1, Ok_ono]
  refine ⟨72, rfl, ?_⟩
  rw [Ok_gd]
  have c12 := c5.1
  refine ⟨(hCy.rw rw72).1, Ok.callv (m_app (a := 0) (b := tpK r) (hCy.rw rw72) hy.2.2 hCy.tape hB4 (by decide) rfl (by rw [e6]; exact hB4.1) (Nat.zero_le _) (Nat.le_refl _) (by omega) (by rw [List.length_append]; omega)) (fun z hz => ?_)⟩
  have hK5 := hK4.tr (ClK.f72 hCy hz)
  have hHz : EqF z H r (31 * m.toNatClampNeg + n.toNatClampNeg) n.toNatClampNeg := hH.cf cfL_s hK5.1.2
  have eg : qI z H 2 = grN r m.toNatClampNeg n.toNatClampNeg := hHz.2.2.2.1
  rw [eg]
  have lt := tpL_len (r := r)
  have hzl : RwL z 72 (saF r n) := hz.2.2
  refine Ok.call (m_settle (n0 := n.toNatClampNeg) (rbN_le hR c1.l) c1.l (hI.c hK5.1) ((hE.k hK5) _ c1.l) hm.t (hmk.cf cfL_s hK5.1.2) (by have := hN.1; rw [t_nat] at this ⊢; omega) hzl ((viL_bt.app viL_bt).app (tpL_bt h hT)) (by unfold saF; rw [List.length_append, List.length_append]; omega) hs) (fun q3 s hs3 => ?_)
  have hA := ClA.k hK5 (SeP.a c1.l hs3)
  refine m_say169 ?_ hA
  by_cases e : (seS a.toNatClampNeg (putL r (rbF r a.toNatClampNeg) m.toNatClampNeg n.toNatClampNeg (grN r m.toNatClampNeg n.toNatClampNeg) (saF r n) (rbN r a.toNatClampNeg) (rbN r a.toNatClampNeg + 1) 0 0)).2 = none
  · exact (hA.2.1 e).1.1
  · obtain ⟨⟨o', W'⟩, e'⟩ := Option.ne_none_iff_exists'.mp e
    exact (hA.2.2 o' W' e').2.1.1
