/-! class: a field is taken -/
def FcP (f : Nat → Int32) (n : Nat) (L : List FdT) (mk ar : Nat) (A B : Int) (g0 : CS) (o : Option (FdT × Nat)) (q : Int32 × CS) : Prop := Rs o (fun z => q.1 = 1 ∧ Tf 46 A B g0 q.2 ∧ Tr f n z.2 q.2 ∧ MbI f (z.1 :: L) mk ar q.2) (Bd f n 46 A B g0 q)
theorem w_fend {f : Nat → Int32} {n p p' F mk ar : Nat} {L : List FdT} {x : FdT} {A B : Int} {g0 g : CS} (hM : MbI f L mk ar g) (hF : FdH f x F g) (hns : ¬ seenN L (fNum x)) (hL : L.length ≤ 10) (hT : Tr f n p' g) (hp : p' ≤ n) (hpp : rn blk f n p' = rn blk f n p) (hG : Tf 46 A B g0 g) (hmk : qn g0 ≤ mk) (har : qn g0 ≤ ar) : Ok (fX6_takeField_72 45 (some mk) (some F) 1 g) (FcP f n L mk ar A B g0 (clF f n p x)) := by
  unfold fX6_takeField_72
  rw [Ok_pif]
  refine ⟨fun q => absurd q (by decide), fun _ => ?_⟩
  rw [Ok_gd]
  refine ⟨hT.1.1.1, Ok.call (w_takeClose hp hT) (fun r t ht => ?_)⟩
  unfold ClP at ht
  rw [hpp] at ht
  rcases ht with ⟨t0, t1, t2, t3⟩ | ⟨t0, t1⟩
  · have t1 : r = 1 := t1
    have t2 : Tf 46 0 0 g t := t2
    have t3 : Tr f n (rn blk f n p + 1) t := t3
    unfold fX6_takeField_83 fX6_takeField_91
    rw [t1, Ok_pif]
    refine ⟨fun q => absurd q (by decide), fun _ => ?_⟩
    have hMt := hM.f0 t2 hT.1
    have hFt : FdH f x F t := hF.fr t2 hT.1.1.1 hT.1.2.2.2.2.2 Wr.n (by have := hF.1.2.1; omega)
    simp only [Ok_ono, Ok_gd]
    refine ⟨mk, rfl, hMt.1.1, Ok.call (w_add hMt hFt hns hL t3 (hG.tr t2) hmk har) (fun r' u hu => ?_)⟩
    obtain ⟨u1, u2, u3, u4⟩ := hu
    have u1 : r' = 1 := u1
    rw [u1, Ok_pif, Ok_some, Ok_some]
    refine ⟨fun q => absurd q (by decide), fun _ => ?_⟩
    exact Rs.s (x := (x, rn blk f n p + 1)) (pif_pos t0) ⟨rfl, u2.le (by omega) (by omega), u3, u4⟩
  · have hr : r = 0 := t1.1
    unfold fX6_takeField_83
    rw [hr, Ok_pif, Ok_some]
    exact ⟨fun _ => Rs.n (pif_neg t0) ⟨rfl, (hG.tr t1.2.1).le (by omega) (by omega), t1.2.2⟩, fun q => absurd rfl q⟩
theorem w_f71 {f : Nat → Int32} {n F mk ar : Nat} {L : List FdT} {A B : Int} {o : Option (FdT × Nat)} {g0 g : CS} (ho : o = none) (h : Tf 46 A B g0 g ∧ TrI f n g ∧ qI g 45 4 ≠ 0) : Ok (fX6_takeField_71 45 (some mk) (some F) g) (FcP f n L mk ar A B g0 o) := by
  unfold fX6_takeField_71 fX6_takeField_72
  rw [Ok_pif, Ok_some]
  exact ⟨fun _ => Rs.n ho ⟨rfl, h⟩, fun q => absurd rfl q⟩
theorem kcF_r {f : Nat → Int32} {n m p : Nat} {T : Nat → Prop} {y : (Nat × Int) × Nat} (h : kcF f n m T p = some y) : 1 ≤ y.1.1 ∧ y.1.1 ≤ 6 ∧ (y.1.1 ≠ 6 → y.1.2 = -1) := by
  unfold kcF at h
  simp only [nam_x] at h
  have h6 := kdW_r f (rn blk f n p) (rn ltr f n (rn blk f n p))
  generalize kdW f (rn blk f n p) (rn ltr f n (rn blk f n p)) = kd at *
  by_cases c0 : kd = 0
  · rw [pif_pos c0] at h; cases h
  · rw [pif_neg c0] at h
    by_cases c6 : kd = 6
    · rw [pif_pos c6] at h
      cases hr : rcF f n m T (rn ltr f n (rn blk f n p)) with
      | none => rw [hr] at h; cases h
      | some v =>
        rw [hr] at h
        have h : pif (v.2 < n ∧ ltr (f v.2)) none (some (((6 : Nat), v.1), v.2)) = some y := h
        by_cases cl : v.2 < n ∧ ltr (f v.2)
        · rw [pif_pos cl] at h; cases h
        · rw [pif_neg cl] at h; cases h; exact ⟨by show 1 ≤ 6; decide, by show 6 ≤ 6; decide, fun q => absurd rfl q⟩
    · rw [pif_neg c6] at h
      cases h
      exact ⟨by show 1 ≤ kd; omega, h6, fun _ => rfl⟩
theorem dcF_6 {f : Nat → Int32} {n p : Nat} {d : (Int × Nat) × Nat} (h : dcF f n 6 p = some d) : d.1.1 = 0 := by
  unfold dcF at h
  rw [pif_neg (fun q => q.2.2 rfl)] at h
  cases h
  rfl
/-- behind the name -/
theorem w_fkind {f : Nat → Int32} {n m p num w F mk ar : Nat} {T : Nat → Prop} {L : List FdT} {pm : Int32} {A B : Int} {g0 g : CS} (hm : pm.toInt = m) (hm8 : m < 8) (hp : p ≤ n) (h : Tr f n p g) (hMs : MsI T g) (hM : MbI f L mk ar g) (hO : FO g F) (hnew : ∀ j, j < 31 → qP g ar j ≠ some F) (hnum : 1 ≤ num ∧ num ≤ 30) (i0 : (qI g F 0).toInt = num) (i2 : (qI g F 2).toInt = 0) (i3 : (qI g F 3).toInt = -1) (j6 : (qJ g F 6).toInt = 0) (p5 : qP g F 5 = some 0) (hna : ∃ s, qP g F 4 = some s ∧ StC f w (p - w) s g) (hns : ¬ seenN L num) (hL : L.length ≤ 10) (hG : Tf 46 A B g0 g) (hF0 : qn g0 ≤ F) (hmk : qn g0 ≤ mk) (har : qn g0 ≤ ar) : Ok (fX6_takeField_35 45 pm (some mk) (some F) 0 g) (FcP f n L mk ar (A + 6) (B + 12) g0 ((kdF f n m T p).map (fun z => ((num, w, p, z.1), z.2)))) := by
  have hF106 := hO.2.1
  obtain ⟨s4, hs4, hst⟩ := hna
  unfold fX6_takeField_35
  rw [Ok_pif]
  refine ⟨fun _ => ?_, fun q => absurd rfl q⟩
  rw [Ok_gd]
  refine ⟨h.1.1.1, Ok.call (w_takeKind hm hm8 hp h hMs hO i3) (fun r t ht => ?_)⟩
  unfold KcP at ht
  rw [kdF_kc]
  cases hkc : kcF f n m T p with
  | none =>
    have hb := ht.2 hkc
    have hr : r = 0 := hb.1
    unfold fX6_takeField_48
    rw [hr, Ok_pif]
    exact ⟨fun _ => w_f71 rfl ⟨(hG.new hb.2.1 hF0).le (by omega) (by omega), hb.2.2⟩, fun q => absurd rfl q⟩
  | some y =>
    obtain ⟨a1, a2, a3, a4, a5, a6, a7, a8, a9⟩ := ht.1 y hkc
    have hy := kcF_r hkc
    have a1 : r = 1 := a1
    have a2 : Tf F 2 4 g t := a2
    have a3 : Tr f n y.2 t := a3
    have a5 : (qI t F 1).toInt = y.1.1 := a5
    have a6 : (qI t F 3).toInt = y.1.2 := a6
    have a7 : ∀ j, j ≠ 1 → j ≠ 3 → qI t F j = qI g F j := a7
    have a8 : qJ t F = qJ g F := a8
    have a9 : qP t F = qP g F := a9
    have hOt := hO.fr a2
    have hMt := hM.fr a2 h.1.1.1 h.1.2.2.2.2.2 hO.wr hnew
    have hst1 := hst.fr a2 h.1.1.1 h.1.2.2.2.2.2 hO.wr
    have ear : qP t ar = qP g ar := a2.2.2.2.1 ar hM.2.1.2.2 (by have := hM.2.1.2.1; omega) (fun q => by have := hM.2.1.1; rw [q, hO.1] at this; cases this)
    unfold fX6_takeField_48
    rw [a1, Ok_pif]
    refine ⟨fun q => absurd q (by decide), fun _ => ?_⟩
    rw [Ok_gd]
    refine ⟨a3.1.1.1, Ok.call (w_takeGroup a4.1 a3 hOt (by rw [a7 2 (by decide) (by decide)]; exact i2) a4.2) (fun r u hu => ?_)⟩
    unfold GpP at hu
    show Ok _ (FcP f n L mk ar (A + 6) (B + 12) g0 (((gdF f n y.1.1 y.2).map (fun z => ((y.1.1, z.1.1, y.1.2, z.1.2.1, z.1.2.2), z.2))).map (fun z => ((num, w, p, z.1), z.2))))
    cases hgp : gpF f n y.2 with
    | none =>
      have hb := hu.2 hgp
      have hr : r = 0 := hb.1
      unfold fX6_takeField_56
      rw [hr, Ok_pif]
      have hgd : gdF f n y.1.1 y.2 = none := by unfold gdF; rw [hgp]; rfl
      rw [hgd]
      exact ⟨fun _ => w_f71 rfl ⟨((hG.new a2 hF0).new hb.2.1 hF0).le (by omega) (by omega), hb.2.2⟩, fun q => absurd rfl q⟩
    | some v =>
      obtain ⟨b1, b2, ⟨p', b3, b4, b5⟩, b6, b7, b8, b9⟩ := hu.1 v hgp
      have b1 : r = 1 := b1
      have b2 : Tf F 2 4 t u := b2
      have b3 : Tr f n p' u := b3
      have b6 : (qI u F 2).toInt = v.1 := b6
      have b7 : ∀ j, j ≠ 2 → qI u F j = qI t F j := b7
      have b8 : qJ u F = qJ t F := b8
      have b9 : qP u F = qP t F := b9
      have hOu := hOt.fr b2
      have hMu := hMt.fr b2 a3.1.1.1 a3.1.2.2.2.2.2 hOt.wr (by rw [ear]; exact hnew)
      have hst2 := hst1.fr b2 a3.1.1.1 a3.1.2.2.2.2.2 hOt.wr
      have ear2 : qP u ar = qP g ar := (b2.2.2.2.1 ar hMt.2.1.2.2 (by have := hM.2.1.2.1; omega) (fun q => by have := hM.2.1.1; rw [q, hO.1] at this; cases this)).trans ear
      have hgd : gdF f n y.1.1 y.2 = (dfF f n y.1.1 v.2).map (fun z => ((v.1, z.1.1, z.1.2), z.2)) := by unfold gdF; rw [hgp]; rfl
      unfold fX6_takeField_56
      rw [b1, Ok_pif]
      refine ⟨fun q => absurd q (by decide), fun _ => ?_⟩
      rw [Ok_gd]
      refine ⟨b3.1.1.1, Ok.call (w_takeDefault (kd := y.1.1) (p := v.2) b4 b3 b5 hOu (by rw [b7 1 (by decide)]; exact a5) hy.1 hy.2.1 (by rw [b8, a8]; exact j6) (by rw [b9, a9]; exact p5)) (fun r x hx => ?_)⟩
      unfold DcP at hx
      rw [hgd, dfF_dc]
      cases hdc : dcF f n y.1.1 v.2 with
      | none =>
        have hb := hx.2 hdc
        have hr : r = 0 := hb.1
        unfold fX6_takeField_64
        rw [hr, Ok_pif]
        exact ⟨fun _ => w_f71 rfl ⟨(((hG.new a2 hF0).new b2 hF0).new hb.2.1 hF0).le (by omega) (by omega), hb.2.2⟩, fun q => absurd rfl q⟩
      | some d =>
        obtain ⟨c1, c2, ⟨p2, c3, c4, c5⟩, c6, c7, c8, c9⟩ := hx.1 d hdc
        have c1 : r = 1 := c1
        have c2 : Tf F 2 4 u x := c2
        have c3 : Tr f n p2 x := c3
        have c6 : qI x F = qI u F := c6
        have c7 : ∀ j, j ≠ 5 → qP x F j = qP u F j := c7
        have c8 : y.1.1 = 5 → ∃ s, qP x F 5 = some s ∧ StC f d.1.2 d.1.1.toNat s x ∧ 0 ≤ d.1.1 ∧ (qJ x F 6).toInt = 0 := c8
        have c9 : y.1.1 ≠ 5 → qP x F 5 = qP u F 5 ∧ (qJ x F 6).toInt = d.1.1 := c9
        have hOx := hOu.fr c2
        have hMx := hMu.fr c2 b3.1.1.1 b3.1.2.2.2.2.2 hOu.wr (by rw [ear2]; exact hnew)
        have hst3 := hst2.fr c2 b3.1.1.1 b3.1.2.2.2.2.2 hOu.wr
        have hGx : Tf 46 (A + 6) (B + 12) g0 x := (((hG.new a2 hF0).new b2 hF0).new c2 hF0).le (by omega) (by omega)
        unfold fX6_takeField_64
        rw [c1, Ok_pif]
        refine ⟨fun q => absurd q (by decide), fun _ => ?_⟩
        unfold fX6_takeField_67
        have hFd : FdH f (num, w, p, y.1.1, v.1, y.1.2, d.1.1, d.1.2) F x := by
          refine ⟨hOx, ⟨hnum, hy.2.2, fun q => by
            rcases q with q | q
            · have := hy.1
              have q : y.1.1 = 0 := q
              omega
            · have q : y.1.1 = 6 := q
              rw [q] at hdc
              exact dcF_6 hdc⟩, ?_, ?_, ?_, ?_, ⟨s4, ?_, hst3⟩, ?_, fun q => (c9 q).2, fun q => (c8 q).choose_spec.2.2.2⟩
          · rw [c6, b7 0 (by decide), a7 0 (by decide) (by decide)]; exact i0
          · rw [c6, b7 1 (by decide)]; exact a5
          · rw [c6]; exact b6
          · rw [c6, b7 3 (by decide)]; exact a6
          · rw [c7 4 (by decide), b9, a9]; exact hs4
          · by_cases q5 : y.1.1 = 5
            · obtain ⟨s, e1, e2, e3, -⟩ := c8 q5
              exact ⟨s, d.1.1.toNat, e1, e2, fun _ => (by show ((d.1.1.toNat : Nat) : Int) = d.1.1; omega), fun q => absurd q5 q⟩
            · refine ⟨0, 0, by rw [(c9 q5).1, b9, a9]; exact p5, (w_const (i := 0) c3.1.2.2.2.2.1 c3.1.2.2.2.2.2 (by decide)).of (fun j hj => absurd hj (by show ¬ j < 0; omega)), fun q => absurd q q5, fun _ => rfl⟩
        refine (w_fend hMx hFd hns hL c3 c4 c5 hGx hmk har).mono (fun q hq => ?_)
        have e : Option.map (fun z : (Nat × Nat × Int × Int × Nat) × Nat => (((num, w, p, z.1), z.2) : FdT × Nat)) (Option.map (fun z : (Nat × Int × Nat) × Nat => ((y.1.1, z.1.1, y.1.2, z.1.2.1, z.1.2.2), z.2)) (Option.map (fun z : (Int × Nat) × Nat => ((v.1, z.1.1, z.1.2), z.2)) (clF f n d.2 d.1))) = clF f n d.2 (num, w, p, y.1.1, v.1, y.1.2, d.1.1, d.1.2) := by
          unfold clF
          by_cases cc : rn blk f n d.2 < n ∧ f (rn blk f n d.2) = 59
          · rw [pif_pos cc, pif_pos cc]; rfl
          · rw [pif_neg cc, pif_neg cc]; rfl
        show FcP f n L mk ar (A + 6) (B + 12) g0 (Option.map (fun z : (Nat × Nat × Int × Int × Nat) × Nat => (((num, w, p, z.1), z.2) : FdT × Nat)) (Option.map (fun z : (Nat × Int × Nat) × Nat => ((y.1.1, z.1.1, y.1.2, z.1.2.1, z.1.2.2), z.2)) (Option.map (fun z : (Int × Nat) × Nat => ((v.1, z.1.1, z.1.2), z.2)) (clF f n d.2 d.1)))) q
        rw [e]
        exact hq
theorem MbI.old {f : Nat → Int32} {L : List FdT} {mk ar : Nat} {g : CS} (h : MbI f L mk ar g) : ∀ j, j < 31 → qP g ar j ≠ some (qn g) := fun j c q => by
  obtain ⟨y, y1, y2⟩ := (h.2.2.2.2.2.1 j c).mp (by rw [q]; exact fun h => by cases h)
  obtain ⟨H, k1, k2⟩ := h.2.2.2.2.2.2 y y1
  rw [y2, q] at k1
  cases k1
  have := k2.1.2.2
  omega
theorem w_takeField {f : Nat → Int32} {n m s mk ar : Nat} {T : Nat → Prop} {L : List FdT} {pm : Int32} {A B : Int} {g0 g : CS} (hm : pm.toInt = m) (hm8 : m < 8) (hp : s ≤ n) (h : Tr f n s g) (hsb : rn blk f n s = s) (hMs : MsI T g) (hM : MbI f L mk ar g) (hL : L.length ≤ 10) (hG : Tf 46 A B g0 g) (hmk : qn g0 ≤ mk) (har : qn g0 ≤ ar) : Ok (fX6_takeField 45 pm (some mk) g) (FcP f n L mk ar (A + 9) (B + 23) g0 (flF f n m T L s)) := by
  have hgn := hG.1.1
  have hfl : flF f n m T L s = pif (NumG f n s ∧ ¬ seenN L (dvN f s (rn dgt f n s - s)).toNat) (pif (rn dgt f n s < n ∧ ltr (f (rn dgt f n s))) none (tlF f n m T L (dvN f s (rn dgt f n s - s)).toNat (rn dgt f n s))) none := by
    unfold flF
    rw [nam_x, nam_x, nam_x, hsb]
  have n106 := h.1.2.2.2.2.2.n46
  unfold fX6_takeField fX6_takeField_3
  simp only [Ok_nam, Ok_ono, Ok_gd]
  refine ⟨qn g, rfl, by rw [qk_wN, if_pos rfl], Ok.callv (w_initF h.1.2.2.2.2.2) (fun u hu => ?_)⟩
  obtain ⟨u1, u2, u3, u4, u5, u6, u7, u8, u9, u10, u11⟩ := hu
  have hTu : Tr f n s u := h.e u1 u2 u3
  have hMu := hM.f0 u1 h.1
  have hMsu := hMs.fr u1 (Or.inl rfl)
  have hF0 : qn g0 ≤ qn g := hgn
  have hGu : Tf 46 (A + 1) (B + 7) g0 u := hG.tr u1
  have hF106 : 106 ≤ qn g := n106.2.2.1
  have earu : qP u ar = qP g ar := u1.2.2.2.1 ar hM.2.1.2.2 (by have := hM.2.1.2.1; omega) (by have := hM.2.1.2.1; omega)
  have hnew : ∀ j, j < 31 → qP u ar j ≠ some (qn g) := by rw [earu]; exact hM.old
  have ne_ar : ar ≠ qn g := by have := hM.2.1.2.2; omega
  generalize qn g = F at *
  unfold fX6_takeField_7
  rw [Ok_gd]
  refine ⟨hTu.1.1.1, Ok.call (w_takeNumber hp hTu hMu u4) (fun r t ht => ?_)⟩
  rcases ht with ⟨t0, t1, t2, t3, t4, t5, t6, t7⟩ | ⟨t0, t1⟩
  · have t1 : r = 1 := t1
    have t2 : Tf F 0 0 u t := t2
    have t3 : Tr f n (rn dgt f n s) t := t3
    have t4 : (qI t F 0).toInt = (dvN f s (rn dgt f n s - s)).toNat := t4
    have t5 : ∀ j, j ≠ 0 → qI t F j = qI u F j := t5
    have t6 : qJ t F = qJ u F := t6
    have t7 : qP t F = qP u F := t7
    rw [hfl, pif_pos t0.1, pif_neg t0.2]
    have hNum := t0.1.1
    have hns := t0.1.2
    have hnum : 1 ≤ (dvN f s (rn dgt f n s - s)).toNat ∧ (dvN f s (rn dgt f n s - s)).toNat ≤ 30 := by
      have := hNum.2
      omega
    have he1 := rn_le dgt f hp
    clear hfl t0 hNum
    generalize (dvN f s (rn dgt f n s - s)).toNat = num at *
    generalize rn dgt f n s = e1 at *
    have hOt := u4.fr t2
    have hMt := hMu.fr t2 hTu.1.1.1 hTu.1.2.2.2.2.2 u4.wr hnew
    have hMst := hMsu.fr t2 (Or.inr hF106)
    have hGt : Tf 46 (A + 1) (B + 7) g0 t := (hGu.new t2 hF0).le (by omega) (by omega)
    have eart : qP t ar = qP u ar := t2.2.2.2.1 ar hMu.2.1.2.2 (by have := hM.2.1.2.1; omega) ne_ar
    unfold fX6_takeField_14
    rw [t1, Ok_pif]
    refine ⟨fun q => absurd q (by decide), fun _ => ?_⟩
    rw [Ok_gd]
    refine ⟨t3.1.1.1, Ok.call (w_takeName he1 t3 hMt hOt) (fun r v hv => ?_)⟩
    unfold tlF
    simp only [nam_x]
    have hw := rn_le blk f he1
    have he2 := rn_le ltr f hw
    generalize rn blk f n e1 = w at *
    generalize rn ltr f n w = e2 at *
    rcases hv with ⟨v0, v1, v2, v3, v4, v5, v6, v7, v8⟩ | ⟨v0, v1⟩
    · have v1 : r = 1 := v1
      have v2 : Tf F 2 4 t v := v2
      have v3 : Tr f n e2 v := v3
      have v4 : qI v F = qI t F := v4
      have v5 : qJ v F = qJ t F := v5
      have v6 : ∀ j, j ≠ 4 → qP v F j = qP t F j := v6
      have hOv := hOt.fr v2
      have hMv := hMt.fr v2 t3.1.1.1 t3.1.2.2.2.2.2 hOt.wr (by rw [eart]; exact hnew)
      have hMsv := hMst.fr v2 (Or.inr hF106)
      have hGv : Tf 46 (A + 3) (B + 11) g0 v := (hGt.new v2 hF0).le (by omega) (by omega)
      have earv : qP v ar = qP t ar := v2.2.2.2.1 ar hMt.2.1.2.2 (by have := hM.2.1.2.1; omega) ne_ar
      have i0 : (qI v F 0).toInt = num := by rw [v4]; exact t4
      have i1 : (qI v F 1).toInt = 0 := by rw [v4, t5 1 (by decide)]; exact u6
      have i2 : (qI v F 2).toInt = 0 := by rw [v4, t5 2 (by decide)]; exact u7
      have i3 : (qI v F 3).toInt = -1 := by rw [v4, t5 3 (by decide)]; exact u8
      have j6 : (qJ v F 6).toInt = 0 := by rw [v5, t6]; exact u11
      have p5 : qP v F 5 = some 0 := by rw [v6 5 (by decide), t7]; exact u10
      rw [pif_pos v0.1]
      unfold fX6_takeField_23
      rw [v1, Ok_pif]
      refine ⟨fun q => absurd q (by decide), fun _ => ?_⟩
      simp only [Ok_ono, Ok_gd]
      by_cases cg : wEq f w e2 [103, 111, 110, 101]
      · rw [pif_pos cg]
        have p4 : qP v F 4 = some 0 := by
          have := v7 cg
          have this : qP v F 4 = qP t F 4 := this
          rw [this, t7]; exact u9
        have hs0 : StC f 0 0 0 v := (w_const (i := 0) v3.1.2.2.2.2.1 v3.1.2.2.2.2.2 (by decide)).of (fun j hj => absurd hj (by show ¬ j < 0; omega))
        refine ⟨F, rfl, hOv.1, 0, p4, hs0.1.1, Ok.bc (w_empty hs0) (fun _ => ?_) (fun q => absurd rfl q)⟩
        unfold fX6_takeField_35 fX6_takeField_67
        rw [Ok_pif]
        refine ⟨fun q => absurd q (by decide), fun _ => ?_⟩
        have hFd : FdH f (num, 0, 0, 0, 0, -1, 0, 0) F v := ⟨hOv, ⟨hnum, fun _ => rfl, fun _ => rfl⟩, i0, i1, i2, i3, ⟨0, p4, hs0⟩, ⟨0, 0, p5, hs0, fun q => absurd q (by show ¬ (0 : Nat) = 5; decide), fun _ => rfl⟩, fun _ => j6, fun q => absurd q (by show ¬ (0 : Nat) = 5; decide)⟩
        refine (w_fend hMv hFd hns hL v3 he2 rfl hGv hmk har).mono (fun q hq => ?_)
        exact ⟨fun z hz => by
          obtain ⟨a1, a2, a3, a4⟩ := hq.1 z hz
          exact ⟨a1, a2.le (by omega) (by omega), a3, a4⟩, fun hz => by
          obtain ⟨a1, a2, a3⟩ := hq.2 hz
          exact ⟨a1, a2.le (by omega) (by omega), a3⟩⟩
      · rw [pif_neg cg, pif_pos (v0.2.resolve_left cg)]
        obtain ⟨s4, hs4, hst⟩ := v8 cg
        have hs4 : qP v F 4 = some s4 := hs4
        have hst : StC f w (e2 - w) s4 v := hst
        have hl := v0.1.1
        refine ⟨F, rfl, hOv.1, s4, hs4, hst.1.1, Ok.bc (w_empty hst) (fun q => by omega) (fun _ => ?_)⟩
        refine (w_fkind (T := T) (w := w) hm hm8 he2 v3 hMsv hMv hOv (by rw [earv, eart]; exact hnew) hnum i0 i2 i3 j6 p5 ⟨s4, hs4, hst⟩ hns hL hGv hF0 hmk har).mono (fun q hq => ?_)
        exact ⟨fun z hz => by
          obtain ⟨a1, a2, a3, a4⟩ := hq.1 z hz
          exact ⟨a1, a2.le (by omega) (by omega), a3, a4⟩, fun hz => by
          obtain ⟨a1, a2, a3⟩ := hq.2 hz
          exact ⟨a1, a2.le (by omega) (by omega), a3⟩⟩
    · have hr : r = 0 := v1.1
      have hnone : pif (1 ≤ e2 - w ∧ e2 - w ≤ 8) (pif (wEq f w e2 [103, 111, 110, 101]) (clF f n e2 (num, 0, 0, 0, 0, -1, 0, 0)) (pif (kdW f w e2 = 0 ∧ ¬ seenW f L w e2) ((kdF f n m T e2).map (fun z => (((num, w, e2, z.1), z.2) : FdT × Nat))) none)) none = none := by
        by_cases c1 : 1 ≤ e2 - w ∧ e2 - w ≤ 8
        · rw [pif_pos c1, pif_neg (fun q => v0 ⟨c1, Or.inl q⟩), pif_neg (fun q => v0 ⟨c1, Or.inr q⟩)]
        · rw [pif_neg c1]
      rw [hnone]
      unfold fX6_takeField_23
      rw [hr, Ok_pif, Ok_some]
      exact ⟨fun _ => Rs.n rfl ⟨rfl, (hGt.new v1.2.1 hF0).le (by omega) (by omega), v1.2.2⟩, fun q => absurd rfl q⟩
  · have hr : r = 0 := t1.1
    have hnone : flF f n m T L s = none := by
      rw [hfl]
      by_cases c1 : NumG f n s ∧ ¬ seenN L (dvN f s (rn dgt f n s - s)).toNat
      · rw [pif_pos c1, pif_pos (Classical.byContradiction (fun q => t0 ⟨c1, q⟩))]
      · rw [pif_neg c1]
    rw [hnone]
    unfold fX6_takeField_14
    rw [hr, Ok_pif, Ok_some]
    exact ⟨fun _ => Rs.n rfl ⟨rfl, (hGu.new t1.2.1 hF0).le (by omega) (by omega), t1.2.2⟩, fun q => absurd rfl q⟩
