/-! read, walk, step, by, readers over the class: the number by which a walk breaks is kept -/
/-- a call that leaves what walks rest on -/
theorem c_read2 {r m : Int32} {g : CS} (h : CI g) : Ok (fX8_read 32 r m g) (fun q => CI q.2 ∧ Cf (32 :: cfL) g q.2 ∧ qI q.2 32 11 = qI g 32 11) := by
  have hin : ∀ i, i ∈ cfL → i ∈ 32 :: cfL := fun i hi => List.mem_cons_of_mem _ hi
  have h1in : ∀ i, i ∈ [32] → i ∈ 32 :: cfL := fun i hi => by rw [List.mem_singleton.mp hi]; exact List.mem_cons_self
  have n32 : (32 : Nat) ∉ cfL := by decide
  unfold fX8_read
  rw [Ok_gd]
  refine ⟨h.1.1, Ok.same (c_recordOf h) (fun o1 h1 => Ok.same (c_mk h) (fun o2 h2 => ?_))⟩
  simp only [Ok_nam]
  have hF : Cf [32] g (wI (wI g 32 9 0) 32 10 (-1)) := (Cf.rf.wI (by simp)).wI (by simp)
  have hC : CI (wI (wI g 32 9 0) 32 10 (-1)) := h.ob hF (by decide)
  have h11 : qI (wI (wI g 32 9 0) 32 10 (-1)) 32 11 = qI g 32 11 := by rw [qI_wI, if_pos rfl, if_neg (by decide), qI_wI, if_pos rfl, if_neg (by decide)]
  generalize wI (wI g 32 9 0) 32 10 (-1) = g1 at hF hC h11 ⊢
  simp only [Ok_pif, Ok_some]
  refine ⟨fun _ => ⟨hC, hF.wk h1in, h11⟩, fun c1 => ⟨fun _ => ⟨hC, hF.wk h1in, h11⟩, fun c2 => ?_⟩⟩
  obtain ⟨row, e1⟩ := Option.ne_none_iff_exists'.mp c1
  obtain ⟨mk, e2⟩ := Option.ne_none_iff_exists'.mp c2
  subst e1
  subst e2
  have hrw := h1.1 row rfl
  have hmk := (h2 mk rfl).fs (S := [32]) (by simp) hF
  rw [hC.1.2.2.2.2.2.1, Ok_ono]
  refine ⟨48, rfl, ?_⟩
  rw [Ok_gd]
  refine ⟨hC.2.2.2.1.1, Ok.call (c_isSound hC hrw (fun x hx => by cases hx; exact hmk)) (fun q t ht => ?_)⟩
  obtain ⟨hSt, -⟩ := ht
  have hSt : Sf g1 t := hSt
  have hFt : Cf (32 :: cfL) g t := (hF.wk h1in).tr (hSt.2.wk hin)
  have ht11 : qI t 32 11 = qI g 32 11 := by rw [hSt.2.i n32]; exact h11
  simp only [Ok_pif]
  refine ⟨fun _ => ?_, fun _ => ?_⟩
  · rw [hSt.1.1.2.2.2.2.2.1, Ok_ono]
    refine ⟨48, rfl, ?_⟩
    unfold fX3_faultFound fX3_placeFound
    simp only [Ok_gd, Ok_bnd, Ok_some, Ok_nam]
    refine ⟨hSt.1.2.2.2.1.1, hSt.1.2.2.2.1.1, ?_⟩
    have hC3 : CI (wI t 32 9 (qI t 48 2)) := hSt.1.ob (Cf.rf.wI (S := [32]) (by simp)) (by decide)
    rw [hC3.1.2.2.2.2.2.1, Ok_ono]
    refine ⟨48, rfl, ?_⟩
    simp only [Ok_gd, Ok_bnd, Ok_some, Ok_nam]
    refine ⟨hC3.2.2.2.1.1, hC3.2.2.2.1.1, hC3.ob (Cf.rf.wI (S := [32]) (by simp)) (by decide), (hFt.wI List.mem_cons_self).wI List.mem_cons_self, ?_⟩
    rw [qI_wI, if_pos rfl, if_neg (by decide), qI_wI, if_pos rfl, if_neg (by decide)]
    exact ht11
  · rw [hSt.1.1.2.2.2.2.2.1, Ok_ono]
    refine ⟨48, rfl, ?_⟩
    rw [Ok_gd]
    refine ⟨hSt.1.2.2.2.1.1, Ok.call (c_countPieces hSt.1 hrw (hmk.fr hSt.2)) (fun q2 u hu => ?_)⟩
    rw [Ok_some]
    exact ⟨hu.1, hFt.tr (hu.2.wk hin), by show qI u 32 11 = _; rw [hu.2.i n32]; exact ht11⟩
/-- along three makes: why, and by which number -/
theorem m_look {a b c : Int32} {g : CS} {r : RS} (h : IW g r) : Ok (fX8_lookAlong 32 a b c g) (fun q => pif (mkN r a ∧ mkN r b ∧ mkN r c) (∃ t, Cf [71] g t ∧ WkC t r ∧ ∃ v u : Int32, Cf [71] (wI t 32 11 v) q.2 ∧ WkC q.2 r ∧ v.toInt = byE r a.toNatClampNeg b.toNatClampNeg c.toNatClampNeg False ∧ q.1 = u ∧ u.toInt = whyE r a.toNatClampNeg b.toNatClampNeg c.toNatClampNeg False) (q = (-1, g))) := by
  obtain ⟨⟨hC, hM, hT, hE⟩, hW⟩ := id h
  unfold fX8_lookAlong
  rw [Ok_gd, hC.1.2.2.2.1]
  refine ⟨hC.1.1, Ok.same (w_mk h) (fun o1 h1 => ?_)⟩
  rw [hC.1.2.2.2.1]
  refine Ok.same (w_mk h) (fun o2 h2 => ?_)
  rw [hC.1.2.2.2.1]
  refine Ok.same (w_mk h) (fun o3 h3 => ?_)
  by_cases q1 : o1 = none
  · rw [pif_pos q1, Ok_some, pif_neg (fun w => h1.1.mpr w.1 q1)]
  rw [pif_neg q1]
  by_cases q2 : o2 = none
  · rw [pif_pos q2, Ok_some, pif_neg (fun w => h2.1.mpr w.2.1 q2)]
  rw [pif_neg q2]
  by_cases q3 : o3 = none
  · rw [pif_pos q3, Ok_some, pif_neg (fun w => h3.1.mpr w.2.2 q3)]
  rw [pif_neg q3]
  have ma := h1.1.mp q1
  have mb := h2.1.mp q2
  have mc := h3.1.mp q3
  have hall : mkN r a ∧ mkN r b ∧ mkN r c := ⟨ma, mb, mc⟩
  simp only [pif_pos hall]
  obtain ⟨m1, e1⟩ := Option.ne_none_iff_exists'.mp q1
  obtain ⟨m2, e2⟩ := Option.ne_none_iff_exists'.mp q2
  obtain ⟨m3, e3⟩ := Option.ne_none_iff_exists'.mp q3
  subst e1
  subst e2
  subst e3
  have k1 := h1.2 m1 rfl
  have k2 := h2.2 m2 rfl
  have k3 := h3.2 m3 rfl
  have ta : tld r a.toNatClampNeg := ⟨by have := ma.1; have := ma.2.1; rw [t_nat]; omega, ma.2.2⟩
  have tb : tld r b.toNatClampNeg := ⟨by have := mb.1; have := mb.2.1; rw [t_nat]; omega, mb.2.2⟩
  have tc : tld r c.toNatClampNeg := ⟨by have := mc.1; have := mc.2.1; rw [t_nat]; omega, mc.2.2⟩
  have a8 := ta.1
  generalize a.toNatClampNeg = A at *
  generalize b.toNatClampNeg = B at *
  generalize c.toNatClampNeg = C at *
  have t3 : tl3 r A B C := ⟨ta, tb, tc⟩
  have ee : ((1 : Int32) = 0) = False := propext ⟨fun q => absurd q (by decide), fun q => q.elim⟩
  have hf := m_first (e := 1) (dp := 0) (m_breaks 12 1) h ta tb tc k1 k2 k3 (by omega) (by omega) rfl fuel 1 1 g rfl (by omega) (by omega) (by unfold fuel; omega) Cf.rf hW (fun k k1 k2 => by omega)
  rw [ee] at hf
  rw [hC.1.2.2.2.2.2.2.2.1, Ok_ono]
  refine ⟨70, rfl, ?_⟩
  rw [Ok_gd]
  unfold fX7_firstNumber
  refine ⟨hC.2.2.2.2.2.1.1, Ok.call hf (fun v t ht => ?_)⟩
  obtain ⟨x1, x2, x3⟩ := ht
  have x1 : Cf [71] g t := x1
  have x2 : WkC t r := x2
  have x3 : v.toInt = _ := x3
  have ht := h.f x1 x2
  rw [Ok_nam]
  have hu : IW (wI t 32 11 v) r := by
    obtain ⟨⟨y1, y2, y3, y4⟩, y5⟩ := ht
    have hF : Cf [32] t (wI t 32 11 v) := Cf.rf.wI (by simp)
    exact ⟨⟨y1.ob hF (by decide), y2, y3, y4.cf (S := [32]) (by simp) hF⟩, fun a b c d u1 u2 u3 u4 => by rw [qI_wo (by decide)]; exact y5 a b c d u1 u2 u3 u4⟩
  have hm : ∀ {m j : Nat}, EqM g m r j → EqM (wI t 32 11 v) m r j := fun hk => (hk.cf (S := [71]) (by simp) x1).cf (S := [32]) (by simp) (Cf.rf.wI (by simp))
  have w := m_why (n := v) (e := 1) (dp := 0) (m_breaks 12 1) hu ta tb tc (hm k1) (hm k2) (hm k3) (by omega) (by omega) rfl
  rw [ee] at w
  have vn : v.toNatClampNeg = wFst r A B C False := by rw [t_nat, x3]; omega
  rw [vn] at w
  rw [hu.1.1.1.2.2.2.2.2.2.2.1, Ok_ono]
  refine ⟨70, rfl, ?_⟩
  rw [Ok_gd]
  refine ⟨hu.1.1.2.2.2.2.2.1.1, Ok.call w (fun y s hs => ?_)⟩
  obtain ⟨s1, s2, s3⟩ := hs
  rw [Ok_some]
  refine ⟨t, x1, x2, v, y, s1, s2, ?_, rfl, ?_⟩
  · rw [x3]; unfold byE; rw [pif_pos t3]
  · have s3 : y.toInt = _ := s3
    rw [s3]
    unfold whyE
    rw [pif_pos t3]
    by_cases f0 : wFst r A B C False = 0
    · rw [pif_pos f0, f0, pif_neg (fun q => by have := q.1; omega)]
    · have hh : hasN r A (wFst r A B C False) := (fstF_P 30 1 (by omega) f0).1.1
      rw [pif_neg f0, pif_pos hh]
