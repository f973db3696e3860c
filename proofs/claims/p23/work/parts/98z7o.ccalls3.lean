/-! the class's calls on records, 3 -/
noncomputable def opL (f : Nat → Int32) (N n : Nat) : List Int32 := ((fndP f N n (N + 1) 0).map (fun p => seg f (pFr f p) (pTo f p N))).getD []
noncomputable def openS (r : RS) (a m n o : Int32) : Int × Option (Nat × List Int32) := pif ((rcN a ∧ rcN o) ∧ mkN r m ∧ hasN r m.toNatClampNeg n.toNatClampNeg ∧ kdN r m.toNatClampNeg n.toNatClampNeg = 6) (pif (sdN r a m) (((opL (rbF r a.toNatClampNeg) (rbN r a.toNatClampNeg) n.toNatClampNeg).length : Int), some (o.toNatClampNeg, opL (rbF r a.toNatClampNeg) (rbN r a.toNatClampNeg) n.toNatClampNeg)) (-2, none)) (-1, none)
theorem m_open126 {g t : CS} {o : Nat} {W : List Int32} (ho : o < 4) (hE : ClE g t o W) : Ok (fX8_open_126 32 (some (36 + 2 * o)) t) (ClA g ((W.length : Int), some (o, W))) := by
  unfold fX8_open_126
  rw [Ok_ono]
  refine ⟨_, rfl, ?_⟩
  have hrow := hE.1.1.rw (isRc_of ho).rw
  rw [Ok_gd]
  refine ⟨hrow.1, Ok.call (c_size hrow) (fun q3 u3 hu3 => ?_)⟩
  have e5 : u3 = t := congrArg Prod.snd hu3
  have e6 : q3 = qI t (36 + 2 * o) 1 := congrArg Prod.fst hu3
  subst e5
  rw [Ok_some]
  exact ClA.e (by rw [e6]; exact hE.2.1.1.1) ho hE
theorem m_open {a m n o : Int32} {g : CS} {r : RS} (hI : IR g r) (hE : RcE g r) (hR : RcI r) : Ok (fX8_open 32 a m n o g) (ClA g (openS r a m n o)) := by
  have h := hI.1
  unfold fX8_open
  rw [Ok_gd]
  refine ⟨h.1.1, Ok.same (m_recordOf h) (fun o1 h1 => Ok.same (m_recordOf h) (fun o4 h4 => Ok.same hI.mk (fun o2 h2 => Ok.same hI.fd (fun o3 h3 => ?_))))⟩
  have no : ¬ ((rcN a ∧ rcN o) ∧ mkN r m ∧ hasN r m.toNatClampNeg n.toNatClampNeg ∧ kdN r m.toNatClampNeg n.toNatClampNeg = 6) → ClA g (openS r a m n o) (((-1) : Int32), g) := fun q => by
    unfold openS
    rw [pif_neg q]
    exact ClA.n rfl (ClK.rf h)
  by_cases c1 : rcN a
  case neg =>
    replace h1 := h1.trans (pif_neg c1)
    rw [h1, pif_pos rfl, Ok_some]
    exact no (fun q => c1 q.1.1)
  replace h1 := h1.trans (pif_pos c1)
  subst h1
  rw [pif_neg (by simp)]
  by_cases c4 : rcN o
  case neg =>
    replace h4 := h4.trans (pif_neg c4)
    rw [h4, pif_pos rfl, Ok_some]
    exact no (fun q => c4 q.1.2)
  replace h4 := h4.trans (pif_pos c4)
  subst h4
  rw [pif_neg (by simp)]
  by_cases c2 : o2 = none
  · rw [pif_pos c2, Ok_some]
    exact no (fun q => h2.1.mpr q.2.1 c2)
  rw [pif_neg c2]
  have hm := h2.1.mp c2
  by_cases c3 : o3 = none
  · rw [pif_pos c3, Ok_some]
    exact no (fun q => h3.1.mpr (has_isF hm q.2.2.1) c3)
  rw [pif_neg c3]
  have hf := h3.1.mp c3
  obtain ⟨mk, emk⟩ := Option.ne_none_iff_exists'.mp c2
  obtain ⟨H, eH⟩ := Option.ne_none_iff_exists'.mp c3
  subst emk
  subst eH
  have hH := h3.2 H rfl
  have hmk := (h2.2 mk rfl).2
  have ek : gF r 1 (31 * m.toNatClampNeg + n.toNatClampNeg) = kdN r m.toNatClampNeg n.toNatClampNeg := rfl
  rw [Ok_ono]
  refine ⟨H, rfl, ?_⟩
  rw [Ok_gd, hH.kd.1, ek]
  refine ⟨hH.1.1, ?_⟩
  by_cases c6 : kdN r m.toNatClampNeg n.toNatClampNeg = 6
  case neg =>
    rw [pif_neg c6, Ok_some]
    exact no (fun q => c6 q.2.2.2)
  rw [pif_pos c6]
  have hN : hasN r m.toNatClampNeg n.toNatClampNeg := (isF_has hf).mpr (fun w => by rw [w] at c6; exact absurd c6 (by decide))
  unfold openS
  rw [pif_pos ⟨⟨c1, c4⟩, hm, hN, c6⟩, h.1.2.2.2.2.2.1, Ok_ono]
  refine ⟨48, rfl, ?_⟩
  rw [Ok_gd]
  refine ⟨h.2.2.2.1.1, Ok.call (m_sound hI hE hR c1 hm hmk) (fun q t ht => ?_)⟩
  obtain ⟨hS, hq⟩ := ht
  have hS : Sr g t := hS
  have hK := ClK.sr hS
  rcases hq with ⟨hq, hs⟩ | ⟨hq, hs⟩
  case inr =>
    have hq : q = 0 := hq
    rw [hq, pif_pos rfl, Ok_some, pif_neg hs]
    exact ClA.n rfl hK
  have hq : q = 1 := hq
  have hBt := (hE.k hK) _ c1.l
  have hn := rbN_le hR c1.l
  have ho4 := c4.l
  have ha4 := c1.l
  rw [hq, pif_neg (by decide), pif_pos hs, hS.1.1.2.2.2.2.2.1, Ok_ono]
  refine ⟨48, rfl, ?_⟩
  rw [Ok_gd]
  have hni : n.toInt = n.toNatClampNeg := by have := hN.1; rw [t_nat] at this ⊢; omega
  refine ⟨hS.1.2.2.2.1.1, Ok.call (m_find (r := r) hn hni (isRc_of c1.l).rw hS.1 hBt hs) (fun oo u hu => ?_)⟩
  obtain ⟨hSu, hu⟩ := hu
  have hSu : Sr t u := hSu
  have hK2 := hK.tr (ClK.sr hSu)
  have hCu := hSu.1
  have hrowo := hCu.rw (isRc_of ho4).rw
  rcases hu with ⟨e1, e2⟩ | ⟨p, e1, e2, hpe⟩
  · have e1 : oo = none := e1
    have eL : opL (rbF r a.toNatClampNeg) (rbN r a.toNatClampNeg) n.toNatClampNeg = [] := by unfold opL; rw [e2]; rfl
    rw [e1, pif_pos rfl, Ok_ono, eL]
    refine ⟨_, rfl, ?_⟩
    rw [Ok_gd]
    refine ⟨hrowo.1, Ok.call (m_cut0 hrowo) (fun q2 v hv => ?_)⟩
    exact m_open126 ho4 (hK2.e (ClE.row hCu ho4 BtL.nil hv) ho4)
  · have e1 : oo = some 50 := e1
    have eL : opL (rbF r a.toNatClampNeg) (rbN r a.toNatClampNeg) n.toNatClampNeg = seg (rbF r a.toNatClampNeg) (pFr (rbF r a.toNatClampNeg) p) (pTo (rbF r a.toNatClampNeg) p (rbN r a.toNatClampNeg)) := by unfold opL; rw [e2]; rfl
    obtain ⟨p1, pA, -, -, -, -, pb, pe, -, -⟩ := hpe
    have pb : (qI u 50 3).toInt = _ := pb
    have pe : (qI u 50 4).toInt = _ := pe
    have p1 : qk u 50 = 5 := p1
    have hlt := pA.lt
    have hBu := (hE.k hK2) _ c1.l
    have hbt : BtL (seg (rbF r a.toNatClampNeg) (pFr (rbF r a.toNatClampNeg) p) (pTo (rbF r a.toNatClampNeg) p (rbN r a.toNatClampNeg))) := btl_seg2 (fun i hi => (hBu.2 i hi).2) hlt.2.2
    rw [e1, pif_neg (by simp), Ok_ono, eL]
    refine ⟨50, rfl, ?_⟩
    rw [Ok_gd, Ok_ono]
    refine ⟨p1, _, rfl, ?_⟩
    rw [Ok_gd]
    refine ⟨hrowo.1, Ok.callv (m_become hrowo (hCu.rw (isRc_of ha4).rw) (by
      rcases Nat.lt_trichotomy a.toNatClampNeg o.toNatClampNeg with w | w | w
      · exact Or.inl ⟨by omega, by omega, by omega⟩
      · exact Or.inr (by omega)
      · exact Or.inl ⟨by omega, by omega, by omega⟩) hBu pb pe hlt.2.1 hlt.2.2 (by omega)) (fun v hv => ?_)⟩
    exact m_open126 ho4 (hK2.e (ClE.row hCu ho4 hbt hv) ho4)
noncomputable def keptS (r : RS) (a m : Int32) : Int × Option (Nat × List Int32) := pif (rcN a ∧ mkN r m) (pif (sdN r a m) (((cntP (fun k => ¬ hasN r m.toNatClampNeg k) (rbF r a.toNatClampNeg) (rbN r a.toNatClampNeg) (rbN r a.toNatClampNeg + 1) 0 : Nat) : Int), none) (-1, none)) (-1, none)
theorem m_kept {a m : Int32} {g : CS} {r : RS} (hI : IR g r) (hE : RcE g r) (hR : RcI r) : Ok (fX8_kept 32 a m g) (ClA g (keptS r a m)) := by
  have h := hI.1
  unfold fX8_kept
  rw [Ok_gd]
  refine ⟨h.1.1, Ok.same (m_recordOf h) (fun o1 h1 => Ok.same hI.mk (fun o2 h2 => ?_))⟩
  have no : ¬ (rcN a ∧ mkN r m) → ClA g (keptS r a m) (((-1) : Int32), g) := fun q => by
    unfold keptS
    rw [pif_neg q]
    exact ClA.n rfl (ClK.rf h)
  by_cases c1 : rcN a
  case neg =>
    replace h1 := h1.trans (pif_neg c1)
    rw [h1, pif_pos rfl, Ok_some]
    exact no (fun q => c1 q.1)
  replace h1 := h1.trans (pif_pos c1)
  subst h1
  rw [pif_neg (by simp)]
  by_cases c2 : o2 = none
  · rw [pif_pos c2, Ok_some]
    exact no (fun q => h2.1.mpr q.2 c2)
  rw [pif_neg c2]
  have hm := h2.1.mp c2
  obtain ⟨mk, emk⟩ := Option.ne_none_iff_exists'.mp c2
  subst emk
  have hmk := (h2.2 mk rfl).2
  unfold keptS
  rw [pif_pos ⟨c1, hm⟩, h.1.2.2.2.2.2.1, Ok_ono]
  refine ⟨48, rfl, ?_⟩
  rw [Ok_gd]
  refine ⟨h.2.2.2.1.1, Ok.call (m_sound hI hE hR c1 hm hmk) (fun q t ht => ?_)⟩
  obtain ⟨hS, hq⟩ := ht
  have hS : Sr g t := hS
  have hK := ClK.sr hS
  rcases hq with ⟨hq, hs⟩ | ⟨hq, hs⟩
  case inr =>
    have hq : q = 0 := hq
    rw [hq, pif_pos rfl, Ok_some, pif_neg hs]
    exact ClA.n rfl hK
  have hq : q = 1 := hq
  rw [hq, pif_neg (by decide), pif_pos hs, hS.1.1.2.2.2.2.2.1, Ok_ono]
  refine ⟨48, rfl, ?_⟩
  rw [Ok_gd]
  refine ⟨hS.1.2.2.2.1.1, Ok.call (m_count (rbN_le hR c1.l) (Or.inr ⟨rfl, rfl⟩) (isRc_of c1.l).rw (hI.c hK.1) ((hE.k hK) _ c1.l) (hmk.cf cfL_s hK.1.2) hs) (fun q2 u hu => ?_)⟩
  rw [Ok_some]
  exact ClA.n hu.2 (hK.tr (ClK.sr hu.1))
/-- read() sets the fault too -/
def RdK (g t : CS) : Prop := CI t ∧ Cf (32 :: rdL) g t ∧ qI t 32 11 = qI g 32 11
noncomputable def readS (r : RS) (a m : Int32) : Int := pif (rcN a ∧ mkN r m) (pif (sdN r a m) ((cntP (hasN r m.toNatClampNeg) (rbF r a.toNatClampNeg) (rbN r a.toNatClampNeg) (rbN r a.toNatClampNeg + 1) 0 : Nat) : Int) (-1)) (-2)
theorem m_read {a m : Int32} {g : CS} {r : RS} (hI : IR g r) (hE : RcE g r) (hR : RcI r) : Ok (fX8_read 32 a m g) (fun q => q.1.toInt = readS r a m ∧ RdK g q.2) := by
  have h := hI.1
  have hin : ∀ i, i ∈ rdL → i ∈ 32 :: rdL := fun i hi => List.mem_cons_of_mem _ hi
  have h1in : ∀ i, i ∈ [32] → i ∈ 32 :: rdL := fun i hi => by rw [List.mem_singleton.mp hi]; exact List.mem_cons_self
  have n32 : (32 : Nat) ∉ rdL := by decide
  unfold fX8_read
  rw [Ok_gd]
  refine ⟨h.1.1, Ok.same (m_recordOf h) (fun o1 h1 => Ok.same hI.mk (fun o2 h2 => ?_))⟩
  simp only [Ok_nam]
  have hF : Cf [32] g (wI (wI g 32 9 0) 32 10 (-1)) := (Cf.rf.wI (by simp)).wI (by simp)
  have hC : CI (wI (wI g 32 9 0) 32 10 (-1)) := h.ob hF (by decide)
  have h11 : qI (wI (wI g 32 9 0) 32 10 (-1)) 32 11 = qI g 32 11 := by rw [qI_wI, if_pos rfl, if_neg (by decide), qI_wI, if_pos rfl, if_neg (by decide)]
  generalize wI (wI g 32 9 0) 32 10 (-1) = g1 at hF hC h11 ⊢
  have r1 : RdK g g1 := ⟨hC, hF.wk h1in, h11⟩
  have no : ¬ (rcN a ∧ mkN r m) → ((-2 : Int32).toInt = readS r a m ∧ RdK g g1) := fun q => by
    unfold readS
    rw [pif_neg q]
    exact ⟨rfl, r1⟩
  by_cases c1 : rcN a
  case neg =>
    replace h1 := h1.trans (pif_neg c1)
    rw [h1, pif_pos rfl, Ok_some]
    exact no (fun q => c1 q.1)
  replace h1 := h1.trans (pif_pos c1)
  subst h1
  rw [pif_neg (by simp)]
  by_cases c2 : o2 = none
  · rw [pif_pos c2, Ok_some]
    exact no (fun q => h2.1.mpr q.2 c2)
  rw [pif_neg c2]
  have hm := h2.1.mp c2
  obtain ⟨mk, emk⟩ := Option.ne_none_iff_exists'.mp c2
  subst emk
  have hmk : EqM g1 mk r m.toNatClampNeg := (h2.2 mk rfl).2.cf (S := [32]) (by simp) hF
  have hI1 : IR g1 r := ⟨hC, hI.2.1, fun j hj => by rw [hF.p]; exact hI.2.2.1 j hj, hI.2.2.2.cf (S := [32]) (by simp) hF⟩
  have hE1 : RcE g1 r := fun j hj => (hE j hj).fr hF (by simp; omega) (by simp; omega)
  unfold readS
  rw [pif_pos ⟨c1, hm⟩, hC.1.2.2.2.2.2.1, Ok_ono]
  refine ⟨48, rfl, ?_⟩
  rw [Ok_gd]
  refine ⟨hC.2.2.2.1.1, Ok.call (m_sound hI1 hE1 hR c1 hm hmk) (fun q t ht => ?_)⟩
  obtain ⟨hS, hq⟩ := ht
  have hS : Sr g1 t := hS
  have hK := ClK.sr hS
  have rt : RdK g t := ⟨hS.1, (hF.wk h1in).tr (hS.2.wk hin), by rw [hS.2.i n32]; exact h11⟩
  rcases hq with ⟨hq, hs⟩ | ⟨hq, hs⟩
  case inr =>
    have hq : q = 0 := hq
    rw [hq, pif_pos rfl, hS.1.1.2.2.2.2.2.1, Ok_ono, pif_neg hs]
    refine ⟨48, rfl, ?_⟩
    unfold fX3_faultFound fX3_placeFound
    simp only [Ok_gd, Ok_bnd, Ok_some, Ok_nam]
    refine ⟨hS.1.2.2.2.1.1, hS.1.2.2.2.1.1, ?_⟩
    have hC3 : CI (wI t 32 9 (qI t 48 2)) := hS.1.ob (Cf.rf.wI (S := [32]) (by simp)) (by decide)
    rw [hC3.1.2.2.2.2.2.1, Ok_ono]
    refine ⟨48, rfl, ?_⟩
    simp only [Ok_gd, Ok_bnd, Ok_some, Ok_nam]
    refine ⟨hC3.2.2.2.1.1, hC3.2.2.2.1.1, rfl, hC3.ob (Cf.rf.wI (S := [32]) (by simp)) (by decide), (rt.2.1.wI List.mem_cons_self).wI List.mem_cons_self, ?_⟩
    rw [qI_wI, if_pos rfl, if_neg (by decide), qI_wI, if_pos rfl, if_neg (by decide)]
    exact rt.2.2
  have hq : q = 1 := hq
  rw [hq, pif_neg (by decide), pif_pos hs, hS.1.1.2.2.2.2.2.1, Ok_ono]
  refine ⟨48, rfl, ?_⟩
  rw [Ok_gd]
  refine ⟨hS.1.2.2.2.1.1, Ok.call (m_count (rbN_le hR c1.l) (Or.inl ⟨rfl, rfl⟩) (isRc_of c1.l).rw (hI1.c hK.1) ((hE1.k hK) _ c1.l) (hmk.cf cfL_s hK.1.2) hs) (fun q2 u hu => ?_)⟩
  rw [Ok_some]
  have hu1 : Sr t u := hu.1
  exact ⟨hu.2, hu1.1, rt.2.1.tr (hu1.2.wk hin), by show qI u 32 11 = _; rw [hu1.2.i n32]; exact rt.2.2⟩
/-- get() leaves the records -/
theorem m_get {a m n w : Int32} {g : CS} {r : RS} (hI : IR g r) (hE : RcE g r) (hR : RcI r) : Ok (fX8_get 32 a m n w g) (fun q => ClK g q.2) := by
  have h := hI.1
  unfold fX8_get
  rw [Ok_gd]
  refine ⟨h.1.1, Ok.same (m_recordOf h) (fun o1 h1 => Ok.same hI.mk (fun o2 h2 => Ok.same hI.fd (fun o3 h3 => ?_)))⟩
  by_cases c1 : rcN a
  case neg =>
    replace h1 := h1.trans (pif_neg c1)
    rw [h1, pif_pos rfl, Ok_some]
    exact ClK.rf h
  replace h1 := h1.trans (pif_pos c1)
  subst h1
  rw [pif_neg (by simp)]
  by_cases c2 : o2 = none
  · rw [pif_pos c2, Ok_some]
    exact ClK.rf h
  rw [pif_neg c2]
  have hm := h2.1.mp c2
  by_cases c3 : o3 = none
  · rw [pif_pos c3, Ok_some]
    exact ClK.rf h
  rw [pif_neg c3]
  obtain ⟨mk, emk⟩ := Option.ne_none_iff_exists'.mp c2
  obtain ⟨H, eH⟩ := Option.ne_none_iff_exists'.mp c3
  subst emk
  subst eH
  have hH := h3.2 H rfl
  have hmk := (h2.2 mk rfl).2
  rw [Ok_pif, Ok_some]
  refine ⟨fun _ => ClK.rf h, fun _ => ?_⟩
  rw [Ok_pif, Ok_some]
  refine ⟨fun _ => ?_, fun _ => ClK.rf h⟩
  rw [h.1.2.2.2.2.2.1, Ok_ono]
  refine ⟨48, rfl, ?_⟩
  rw [Ok_gd]
  refine ⟨h.2.2.2.1.1, Ok.call (m_sound hI hE hR c1 hm hmk) (fun q t ht => ?_)⟩
  obtain ⟨hS, hq⟩ := ht
  have hS : Sr g t := hS
  have hK := ClK.sr hS
  rcases hq with ⟨hq, hs⟩ | ⟨hq, hs⟩
  case inr =>
    have hq : q = 0 := hq
    rw [hq, pif_pos rfl, Ok_some]
    exact hK
  have hq : q = 1 := hq
  have hHt : EqF t H r (31 * m.toNatClampNeg + n.toNatClampNeg) n.toNatClampNeg := hH.cf cfL_s hS.sf.2
  -- the end
  have e95 : ∀ (s0 : Option Nat) (u : CS), ClK g u → EqF u H r (31 * m.toNatClampNeg + n.toNatClampNeg) n.toNatClampNeg → (∀ x, s0 = some x → qk u x = 5) → Ok (fX8_get_95 32 w (some H) s0 u) (fun q => ClK g q.2) := fun s0 u hu hHu hs0 => by
    unfold fX8_get_95
    simp only [Ok_pif, Ok_some]
    refine ⟨fun _ => ⟨fun _ => hu, fun _ => hu⟩, fun _ => ⟨fun _ => ?_, fun c => ?_⟩⟩
    · rw [Ok_ono]
      refine ⟨H, rfl, ?_⟩
      rw [Ok_gd]
      refine ⟨hHu.1.1, Ok.call (m_plainN hHu) (fun v y hy => ?_)⟩
      cases hy
      rw [Ok_some]
      exact hu
    · obtain ⟨x, ex⟩ := Option.ne_none_iff_exists'.mp c
      have kx := hs0 x ex
      rw [ex, Ok_ono]
      refine ⟨x, rfl, ?_⟩
      rw [Ok_gd]
      refine ⟨kx, ?_⟩
      unfold fX2_tells fX2_asNumber
      simp only [Ok_bnd, Ok_gd, Ok_pif, Ok_some]
      exact ⟨kx, fun _ => ⟨kx, hu⟩, fun _ => hu⟩
  rw [hq, pif_neg (by decide), Ok_ono]
  refine ⟨H, rfl, ?_⟩
  rw [Ok_gd]
  refine ⟨hHt.1.1, ?_⟩
  rw [Ok_pif]
  refine ⟨fun _ => e95 none t hK hHt (fun x hx => by cases hx), fun c0 => ?_⟩
  rw [hHt.kd.1] at c0
  rw [hS.1.1.2.2.2.2.2.1, Ok_ono]
  refine ⟨48, rfl, ?_⟩
  rw [Ok_gd]
  have hN : hasN r m.toNatClampNeg n.toNatClampNeg := (isF_has (h3.1.mp c3)).mpr c0
  have hni : n.toInt = n.toNatClampNeg := by have := hN.1; rw [t_nat] at this ⊢; omega
  refine ⟨hS.1.2.2.2.1.1, Ok.call (m_find (r := r) (rbN_le hR c1.l) hni (isRc_of c1.l).rw hS.1 ((hE.k hK) _ c1.l) hs) (fun oo u hu => ?_)⟩
  obtain ⟨hSu, hu⟩ := hu
  have hSu : Sr t u := hSu
  refine e95 oo u (hK.tr (ClK.sr hSu)) (hHt.cf cfL_s hSu.sf.2) (fun x hx => ?_)
  rcases hu with ⟨e1, e2⟩ | ⟨p, e1, e2, hpe⟩
  · have e1 : oo = none := e1
    rw [e1] at hx
    cases hx
  · have e1 : oo = some 50 := e1
    rw [e1] at hx
    cases hx
    exact hpe.1
