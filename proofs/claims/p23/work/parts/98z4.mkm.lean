/-! make with the makes alike -/
theorem StC.p4 {f : Nat → Int32} {a l s i x : Nat} {g : CS} (h : StC f a l s g) : StC f a l s (wP g 44 i (some x)) := by
  obtain ⟨⟨s1, s2, s3, c0, s4, s5⟩, c, c1, c2, c3, c4⟩ := h
  have el : lb (wP g 44 i (some x)) = lb g := by unfold lb; rw [qP_wo (by decide)]
  exact ⟨⟨s1, s2, s3, c0, by rw [qP_wo (by omega)]; exact s4, s5⟩, c, by rw [qP_wo (by omega)]; exact c1, c2, c3, by rw [el]; exact c4⟩
theorem EqF.p4 {g : CS} {H F n i x : Nat} {r : RS} (h : EqF g H r F n) : EqF (wP g 44 i (some x)) H r F n := by
  obtain ⟨a1, a2, a3, a4, a5, a6, ⟨s, fn, a7, a8, a8'⟩, ⟨s', l, b1, b2, b3, b4⟩, a9, a10⟩ := h
  have eP : qP (wP g 44 i (some x)) H = qP g H := qP_wo (by omega)
  exact ⟨a1, a2, a3, a4, a5, a6, ⟨s, fn, by rw [eP]; exact a7, a8.p4, a8'⟩, ⟨s', l, by rw [eP]; exact b1, b2.p4, b3, b4⟩, a9, a10⟩
theorem EqM.p4 {g : CS} {mk j i x : Nat} {r : RS} (h : EqM g mk r j) : EqM (wP g 44 i (some x)) mk r j := by
  obtain ⟨ar, h1, h2, h3, h4, h5, h6, h7⟩ := h
  have eP : qP (wP g 44 i (some x)) mk = qP g mk := qP_wo (by omega)
  have eA : qP (wP g 44 i (some x)) ar = qP g ar := qP_wo (by omega)
  exact ⟨ar, by rw [eP]; exact h1, h2, h3, h4, fun n hn => by rw [eA]; exact h5 n hn, h6, fun n H hn hH => (h7 n H hn (by rw [← eA]; exact hH)).p4⟩
/-- what stands between two calls, with the makes alike -/
def IM (g : CS) (r : RS) : Prop := IN g r ∧ MkE g r
theorem CI.w32m {g : CS} {k : Nat} {v : Int32} (h : CI g) : CI (wI g 32 k v) := h.ob (Cf.rf.wI (S := [32]) (by simp)) (by decide)
/-- the makes that were told stay as they are -/
def SaM (r t : RS) (j : Nat) : Prop := ∀ n, n < 31 → SaF r t (31 * j + n)
def MkK (r t : RS) : Prop := (∀ j, j < 8 → gF r 0 j ≠ 0 → gF t 0 j ≠ 0 ∧ SaM r t j) ∧ KeR r t
theorem MkK.rf {r : RS} : MkK r r := ⟨fun j _ h => ⟨h, fun n _ => ⟨rfl, rfl, rfl, rfl, rfl, rfl, fun _ _ => rfl⟩⟩, rfl, rfl, rfl⟩
/-- make leaves the class's records, what was seen of walks, and the number by which one broke -/
def StM (g t : CS) : Prop := (∀ i, 36 ≤ i ∧ i < 44 ∨ i = 71 → qI t i = qI g i) ∧ qI t 32 11 = qI g 32 11
theorem StM.rf {g : CS} : StM g g := ⟨fun _ _ => rfl, rfl⟩
theorem StM.tr {a b c : CS} (h : StM a b) (k : StM b c) : StM a c := ⟨fun i hi => (k.1 i hi).trans (h.1 i hi), k.2.trans h.2⟩
theorem StM.wI {g : CS} {i k : Nat} {v : Int32} (h : ¬ (36 ≤ i ∧ i < 44) ∧ i ≠ 71 ∧ (i = 32 → k ≠ 11)) : StM g (wI g i k v) := by
  refine ⟨fun j hj => ?_, ?_⟩
  · rw [qI_wo (by omega)]
  · rw [qI_wI]
    by_cases c : 32 = i
    · rw [if_pos c, if_neg (Ne.symm (h.2.2 c.symm)), c]
    · rw [if_neg c]
theorem mkM : ∀ (pm : Int32) (g : CS) (r : RS), IM g r → Ok (fX8_make 32 pm g) (fun q => Ok (x9_make pm r) (fun p => IM q.2 p.2 ∧ q.1 = p.1 ∧ MkK r p.2) ∧ StM g q.2 ∧ qn q.2 ≤ qn g + 1000 ∧ qs q.2 ≤ qs g + 13000) := by
  intro pm g r hIM
  obtain ⟨hIN, hME⟩ := id hIM
  obtain ⟨h1, h2, h3, h4, h5⟩ := id hIN
  have hr := r_make (pm := pm) h2 h5 (fun j hj => (h3.2 j hj).2.1)
  have fin : ∀ (t : CS) (o : Int32), (∀ p : Int32 × RS, pif (0 ≤ pm.toInt ∧ pm.toInt < 8 ∧ gF r 0 pm.toNatClampNeg = 0) (MkR r pm.toNatClampNeg p) (p = (-2, r)) → IM t p.2 ∧ o = p.1 ∧ MkK r p.2) → StM g t → qn t ≤ qn g + 1000 → qs t ≤ qs g + 13000 → (fun q : Int32 × CS => Ok (x9_make pm r) (fun p => IM q.2 p.2 ∧ q.1 = p.1 ∧ MkK r p.2) ∧ StM g q.2 ∧ qn q.2 ≤ qn g + 1000 ∧ qs q.2 ≤ qs g + 13000) (o, t) := fun t o a s b c => ⟨hr.mono a, s, b, c⟩
  have same : ¬ (0 ≤ pm.toInt ∧ pm.toInt < 8 ∧ gF r 0 pm.toNatClampNeg = 0) → (fun q : Int32 × CS => Ok (x9_make pm r) (fun p => IM q.2 p.2 ∧ q.1 = p.1 ∧ MkK r p.2) ∧ StM g q.2 ∧ qn q.2 ≤ qn g + 1000 ∧ qs q.2 ≤ qs g + 13000) ((-2 : Int32), g) := fun hc => fin g (-2) (fun p hp => by
    rw [pif_neg hc] at hp
    rw [hp]
    exact ⟨hIM, rfl, MkK.rf⟩) StM.rf (by omega) (by omega)
  obtain ⟨k1, k2, k3⟩ := h1.2.2.1
  unfold fX8_make
  simp only [Ok_pif, Ok_gd, Ok_ono, Ok_some]
  rw [t_lt, t_le, show (0 : Int32).toInt = 0 from rfl, show (8 : Int32).toInt = 8 from rfl]
  refine ⟨fun c => same (fun q => by omega), fun c0 => ⟨fun c => same (fun q => by omega), fun c8 => ⟨h1.1.1, 44, h1.1.2.2.2.1, k1, by rw [t_in, k2]; omega, fun cn => ⟨45, h1.1.2.2.2.2.1, h1.2.2.2.2.2.2.1.1, ?_⟩, fun cn => same (fun q => cn ((h4 _ (by rw [t_nat]; omega)).mpr q.2.2))⟩⟩⟩
  obtain ⟨m, em⟩ : ∃ m, m = pm.toNatClampNeg := ⟨_, rfl⟩
  have hm : pm.toInt = m := by rw [em, t_nat]; omega
  have hm8 : m < 8 := by omega
  rw [← em] at cn fin
  have g0m : gF r 0 m = 0 := (h4 m hm8).mp cn
  have hcond : 0 ≤ pm.toInt ∧ pm.toInt < 8 ∧ gF r 0 m = 0 := ⟨by omega, by omega, g0m⟩
  have hn : ((tpN r : Nat) : Int) = (gI r 10).toInt := by have := h2.2.2.1; unfold tpN; rw [t_nat]; omega
  have hTr : TrI (tpF r) (tpN r) g := ⟨⟨h1.2.2.2.2.2.2.1.1, h1.2.2.2.2.2.2.1.2.1, h1.2.2.2.2.2.2.1.2.2.1, h1.2.2.2.2.2.2.1.2.2.2.1⟩, h1.tape, by rw [h3.1]; omega, fun j hj => h3.2 j (by omega), h1.2.2.2.2.2.2.2.1, h1.lw⟩
  have hMs : MsI (fun j => gF r 0 j ≠ 0) g := ⟨k1, k2, h1.2.2.2.2.2.2.2.1.1, fun j hj => by
    have := h4 j hj
    constructor
    · exact fun q w => q (this.mp w)
    · exact fun q w => q (this.mpr w)⟩
  refine Ok.call (w_tell hm hm8 hTr hMs) (fun o t ht => ?_)
  obtain ⟨g0, ar, ⟨a1, a2, a3, a4, a5⟩, b1, b2, b3⟩ := ht
  have b1 : Tf 46 101 286 g0 t := b1
  have b2 : TrI (tpF r) (tpN r) t := b2
  have eT : tpM r m = mkF (tpF r) (tpN r) m (fun j => gF r 0 j ≠ 0) 12 [] 0 := rfl
  rw [← eT] at b3
  have hgt : Tf 46 (0 + 0 + 101) (-(0 - (qI g 45 3).toInt) + 0 + 286) g t := ((Tf.pos (F := 46) (v := 0) (g := g) (d := 0 - (qI g 45 3).toInt) (by show (0 : Int) = _; omega) (by decide)).tr a1).tr b1
  have cT : CI t := h1.tf hgt b2.2.2.2.2.2
  have hlt := b2.2.2.2.2.2
  have rn1 : qn t ≤ qn g + 1000 := by
    have q1 := b1.2.2.2.2.1
    have q2 := hlt.2.2.2.2.2.1
    have q3 := a5.2.2.2.2.1
    omega
  have rn2 : qs t ≤ qs g + 13000 := by
    have q1 := b1.2.2.2.2.2
    have q2 := hlt.2.2.2.2.2.1
    have q3 := a5.2.2.2.2.1
    have q4 : (qI g0 45 3).toInt = 0 := by rw [a4]; rfl
    omega
  have sT : StM g t := by
    have lw := h1.lw
    have l9 := lw.2.2.2.2.2.2.2.2.1
    have n1 := lw.2.2.2.2.2.2.2.2.2.2.2
    exact ⟨fun i hi => (hgt.2.2.1 i (by omega) (by omega) (by omega) (by omega) (by omega)).1, by rw [(hgt.2.2.1 32 (by omega) (by decide) (by decide) (by decide) (by omega)).1]⟩
  have e44 : qP t 44 = qP g 44 := hgt.2.2.2.1 44 (by have := h1.2.2.2.2.2.2.2.1.1; omega) (by decide) (by decide)
  unfold fX8_make_30
  simp only [Ok_gd, Ok_ono]
  refine ⟨cT.1.1, 33, cT.1.2.1, cT.tape.1, Ok.call (c_cut cT.tape) (fun r1 u hu => ?_)⟩
  have hz := cT.tape.2.2.2.2.1
  rw [pif_pos (show 0 ≤ (0 : Int32).toInt ∧ (0 : Int32).toInt ≤ (qI t 33 1).toInt from ⟨by decide, by show (0 : Int) ≤ _; exact hz⟩)] at hu
  cases hu
  have cU : CI (wI t 33 1 0) := cT.tp (Cf.rf.wI (by simp)) (cT.tape.wS (by decide) (by decide))
  have eU : qI (wI t 33 1 0) 33 1 = 0 := by rw [qI_wI, if_pos rfl, if_pos rfl]
  have eP : qP (wI t 33 1 0) = qP t := rfl
  have en : qn (wI t 33 1 0) = qn t := rfl
  have es : qs (wI t 33 1 0) = qs t := rfl
  have n106 := h1.2.2.2.2.2.2.2.1.1
  have eC : qI (wI t 33 1 0) (qn g) = qI t (qn g) := qI_wo (by omega)
  have eQ : ∀ x r j, EqM t x r j → EqM (wI t 33 1 0) x r j := fun x r j hx => hx.cf (S := [33]) (by simp) (Cf.rf.wI (by simp))
  have eM : ∀ x, MkO t x → MkO (wI t 33 1 0) x := fun x hx => hx.fs (S := [33]) (by simp) (Cf.rf.wI (by simp))
  have sU : StM g (wI t 33 1 0) := sT.tr (StM.wI ⟨by decide, by decide, fun q => absurd q (by decide)⟩)
  generalize wI t 33 1 0 = u at *
  unfold fX8_make_39 fX6_faultFound
  simp only [Ok_gd, Ok_ono]
  refine ⟨cU.1.1, 45, cU.1.2.2.2.2.1, cU.2.2.2.2.2.2.1.1, Ok.call (Q := fun q => q.2 = u) (by rw [Ok_gd, Ok_some]; exact ⟨cU.2.2.2.2.2.2.1.1, rfl⟩) (fun x u' hu' => ?_)⟩
  have hu' : u' = u := hu'
  subst hu'
  unfold fX8_make_48 fX6_placeFound
  simp only [Ok_gd, Ok_ono, Ok_nam]
  have cV : CI (wI u' 32 9 x) := cU.w32m
  have eV : qI (wI u' 32 9 x) 33 1 = 0 := by rw [qI_wo (by decide)]; exact eU
  have ePv : qP (wI u' 32 9 x) = qP t := eP
  have env : qn (wI u' 32 9 x) = qn t := en
  have esv : qs (wI u' 32 9 x) = qs t := es
  have eCv : qI (wI u' 32 9 x) (qn g) = qI t (qn g) := (qI_wo (by omega)).trans eC
  have eQv : ∀ z r j, EqM t z r j → EqM (wI u' 32 9 x) z r j := fun z r j hz => (eQ z r j hz).cf (S := [32]) (by simp) (Cf.rf.wI (by simp))
  have eMv : ∀ y, MkO t y → MkO (wI u' 32 9 x) y := fun y hy => (eM y hy).fs (S := [32]) (by simp) (Cf.rf.wI (by simp))
  refine ⟨cU.1.1, ?_⟩
  have sV : StM g (wI u' 32 9 x) := sU.tr (StM.wI ⟨by decide, by decide, fun _ => by decide⟩)
  generalize wI u' 32 9 x = v at *
  refine ⟨45, cV.1.2.2.2.2.1, cV.2.2.2.2.2.2.1.1, Ok.call (Q := fun q => q.2 = v) (by rw [Ok_gd, Ok_some]; exact ⟨cV.2.2.2.2.2.2.1.1, rfl⟩) (fun y v' hv' => ?_)⟩
  have hv' : v' = v := hv'
  subst hv'
  unfold fX8_make_59
  simp only [Ok_gd, Ok_nam]
  have cW : CI (wI v' 32 10 y) := cV.w32m
  have eW : qI (wI v' 32 10 y) 33 1 = 0 := by rw [qI_wo (by decide)]; exact eV
  have ePw : qP (wI v' 32 10 y) = qP t := ePv
  have enw : qn (wI v' 32 10 y) = qn t := env
  have esw : qs (wI v' 32 10 y) = qs t := esv
  have eCw : qI (wI v' 32 10 y) (qn g) = qI t (qn g) := (qI_wo (by omega)).trans eCv
  have eQw : ∀ z r j, EqM t z r j → EqM (wI v' 32 10 y) z r j := fun z r j hz => (eQv z r j hz).cf (S := [32]) (by simp) (Cf.rf.wI (by simp))
  have eMw : ∀ z, MkO t z → MkO (wI v' 32 10 y) z := fun z hz => (eMv z hz).fs (S := [32]) (by simp) (Cf.rf.wI (by simp))
  refine ⟨cV.1.1, ?_⟩
  have sW : StM g (wI v' 32 10 y) := sV.tr (StM.wI ⟨by decide, by decide, fun _ => by decide⟩)
  generalize wI v' 32 10 y = w at *
  -- what is left
  have last : ∀ (w' : CS) (p : Int32 × RS), MkR r m p → CI w' → qI w' 33 1 = 0 → (∀ j, j < 8 → j ≠ m → qP w' 44 j = qP g 44 j) → (qP w' 44 m = none ↔ gF p.2 0 m = 0) → (∀ x r j, EqM w x r j → EqM w' x r j) → (∀ x, qP w' 44 m = some x → EqM w' x p.2 m) → IM w' p.2 := fun w' p hp c1 c2 c3 c4 c5 c6 => by
    obtain ⟨p1, p2, p3, ⟨⟨p4, p4k⟩, p4'⟩, p5⟩ := hp
    refine ⟨⟨c1, p1, ⟨by rw [c2, p3], fun j hj => ?_⟩, fun j hj => ?_, p2⟩, fun j hj mk hmk => ?_⟩
    · rw [p3] at hj
      exact absurd hj (by show ¬ ((j : Int) < 0); omega)
    · by_cases c : j = m
      · rw [c]; exact c4
      · rw [c3 j hj c, p4 j hj c]; exact h4 j hj
    · by_cases c : j = m
      · rw [c] at hmk ⊢; exact c6 mk hmk
      · rw [c3 j hj c] at hmk
        have e1 := (hME j hj mk hmk).tf hgt h1.2.2.2.2.2.2.1.1 h1.lw
        exact c5 _ _ _ (eQw _ _ _ (e1.r (fun n hn => p4' (31 * j + n) (by omega))))
  have hK : ∀ p : Int32 × RS, MkR r m p → MkK r p.2 := fun p hp => by
    obtain ⟨p1, p2, p3, ⟨⟨p4, p4k⟩, p4'⟩, p5⟩ := hp
    refine ⟨fun j hj h0 => ?_, p4k⟩
    have hjm : j ≠ m := fun q => h0 (by rw [q]; exact g0m)
    exact ⟨by rw [p4 j hj hjm]; exact h0, fun n hn => p4' (31 * j + n) (by omega)⟩
  rw [Ok_pif]
  refine ⟨fun co => ?_, fun co => ?_⟩
  · rw [Ok_some]
    refine fin w (-1) (fun p hp => ?_) sW (by omega) (by omega)
    rw [pif_pos hcond] at hp
    cases ho : tpM r m with
    | none =>
      obtain ⟨n1, n2⟩ := hp.2.2.2.2.2 ho
      refine ⟨last w p hp cW eW (fun j _ _ => by rw [ePw, e44]) ?_ (fun _ _ _ q => q) (fun x hx => ?_), n2.symm, hK p hp⟩
      · rw [ePw, e44]
        exact ⟨fun _ => n1, fun _ => cn⟩
      · rw [ePw, e44, cn] at hx
        cases hx
    | some L =>
      have := (b3.1 L ho).1
      have this : o = some (qn g) := this
      rw [co] at this
      cases this
  · simp only [Ok_ono, Ok_gd, Ok_nam]
    cases ho : tpM r m with
    | none => exact absurd (b3.2 ho) co
    | some L =>
      obtain ⟨b4, b5⟩ := b3.1 L ho
      have b4 : o = some (qn g) := b4
      have b5 : MbI (tpF r) L (qn g) ar t := b5
      have hMk := eMw _ b5.mk
      refine ⟨qn g, b4, hMk.1, 44, cW.1.2.2.2.1, cW.2.2.1.1, by rw [t_in, cW.2.2.1.2.1]; omega, ?_⟩
      rw [← em]
      have cX : CI (wP w 44 m (some (qn g))) := cW.p4 hMk
      unfold fX1_count fX8_make_79
      refine Ok.call (Q := fun q => q = (qI t (qn g) 1, wP w 44 m (some (qn g)))) (by rw [Ok_gd, Ok_some]; exact ⟨hMk.1, by rw [qI_wP, eCw]⟩) (fun z w2 hw2 => ?_)
      cases hw2
      rw [Ok_some]
      refine fin (wP w 44 m (some (qn g))) (qI t (qn g) 1) (fun p hp => ?_) (by exact sW) (by rw [qn_wP]; omega) (by rw [qs_wP]; omega)
      rw [pif_pos hcond] at hp
      obtain ⟨l1, l2, l3⟩ := hp.2.2.2.2.1 L ho
      refine ⟨last _ p hp cX eW (fun j _ hj => ?_) ?_ (fun _ _ _ q => q.p4) (fun x hx => ?_), by rw [t_eq, l2, b5.2.2.2.2.1], hK p hp⟩
      · rw [qP_wP, if_pos rfl, if_neg hj, ePw, e44]
      · rw [qP_wP, if_pos rfl, if_pos rfl]
        exact ⟨fun q => (by cases q), fun q => absurd q l1⟩
      · rw [qP_wP, if_pos rfl, if_pos rfl] at hx
        cases hx
        exact (eQw _ _ _ (b5.eq l3)).p4
