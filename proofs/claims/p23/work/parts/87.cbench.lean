theorem c_recordOf {r : Int32} {g : CS} (h : CI g) : Ok (fX8_recordOf 32 r g) (SmP g (fun o => (∀ x, o = some x → isRw x 120) ∧ (o ≠ none ↔ 0 ≤ r.toInt ∧ r.toInt < 4))) := by
  obtain ⟨h1, h2, h3, h4, h5, h6⟩ := h.2.1
  unfold fX8_recordOf
  simp only [Ok_pif, Ok_some]
  rw [t_lt, t_le, show (0 : Int32).toInt = 0 from rfl, show (4 : Int32).toInt = 4 from rfl]
  refine ⟨fun c => ⟨rfl, ⟨(fun x hx => by cases hx), ⟨fun q => absurd rfl q, fun q => by omega⟩⟩⟩, fun c => ⟨fun d => ⟨rfl, ⟨(fun x hx => by cases hx), ⟨fun q => absurd rfl q, fun q => by omega⟩⟩⟩, fun d => ?_⟩⟩
  rw [Ok_gd, h.1.2.2.1, Ok_ono]
  refine ⟨h.1.1, 35, rfl, ?_⟩
  simp only [Ok_gd, Ok_some]
  refine ⟨h1, by rw [t_in, h2]; omega, rfl, ⟨fun x hx => ?_, ⟨fun _ => by omega, fun _ => ?_⟩⟩⟩
  · rcases (show r.toNatClampNeg = 0 ∨ r.toNatClampNeg = 1 ∨ r.toNatClampNeg = 2 ∨ r.toNatClampNeg = 3 by rw [t_nat]; omega) with q | q | q | q
    · have hx : qP g 35 r.toNatClampNeg = some x := hx
      rw [q, h3] at hx; cases hx; exact Or.inl ⟨Or.inl rfl, rfl⟩
    · have hx : qP g 35 r.toNatClampNeg = some x := hx
      rw [q, h4] at hx; cases hx; exact Or.inl ⟨Or.inr (Or.inl rfl), rfl⟩
    · have hx : qP g 35 r.toNatClampNeg = some x := hx
      rw [q, h5] at hx; cases hx; exact Or.inl ⟨Or.inr (Or.inr (Or.inl rfl)), rfl⟩
    · have hx : qP g 35 r.toNatClampNeg = some x := hx
      rw [q, h6] at hx; cases hx; exact Or.inl ⟨Or.inr (Or.inr (Or.inr rfl)), rfl⟩
  · show qP g 35 r.toNatClampNeg ≠ none
    rcases (show r.toNatClampNeg = 0 ∨ r.toNatClampNeg = 1 ∨ r.toNatClampNeg = 2 ∨ r.toNatClampNeg = 3 by rw [t_nat]; omega) with q | q | q | q
    · rw [q, h3]; exact fun q => by cases q
    · rw [q, h4]; exact fun q => by cases q
    · rw [q, h5]; exact fun q => by cases q
    · rw [q, h6]; exact fun q => by cases q
theorem c_mk {m : Int32} {g : CS} (h : CI g) : Ok (fX8_makeOf (qP g 32 2) m g) (SmP g (fun o => ∀ x, o = some x → MkO g x)) := by
  rw [h.1.2.2.2.1]
  exact c_makeOf h
theorem c_fieldOf {m n : Int32} {g : CS} (h : CI g) : Ok (fX8_fieldOf 32 m n g) (SmP g (fun o => ∀ x, o = some x → FdO g x)) := by
  unfold fX8_fieldOf
  rw [Ok_gd]
  refine ⟨h.1.1, Ok.same (c_mk h) (fun o ho => ?_)⟩
  simp only [Ok_pif, Ok_some, Ok_ono, Ok_gd]
  refine ⟨fun _ => ⟨rfl, fun x hx => by cases hx⟩, fun c => ?_⟩
  obtain ⟨f, e⟩ := Option.ne_none_iff_exists'.mp c
  exact ⟨f, e, (ho f e).1, Ok.same (c_fieldAt (ho f e)) (fun r hr => by rw [Ok_some]; exact ⟨rfl, hr⟩)⟩
theorem rw74 : isRw 74 256 := Or.inr ⟨Or.inr rfl, rfl⟩
theorem rw72 : isRw 72 256 := Or.inr ⟨Or.inl rfl, rfl⟩
theorem c_settle {row : Nat} {mk : Nat} {n gr : Int32} {g : CS} (h : CI g) (hrw : isRw row 120) (hmk : MkO g mk) : Ok (fX8_settle 32 (some row) (some mk) n gr g) (fun q => Sf g q.2) := by
  unfold fX8_settle
  rw [Ok_gd, h.1.2.2.2.2.2.2.1, h.1.2.2.2.2.2.2.2.2.1, h.1.2.2.2.2.2.2.2.2.2, Ok_ono]
  refine ⟨h.1.1, 58, rfl, ?_⟩
  rw [Ok_gd]
  refine ⟨h.2.2.2.2.1.1, Ok.callv (c_rewriteWith h hrw rw74 (Or.inl rw72) hmk) (fun t ht => ?_)⟩
  have e8 := ht.1.1.2.2.2.2.2.2.2.2.2
  rw [e8, Ok_ono]
  refine ⟨74, rfl, ?_⟩
  have h74 := ht.1.rw rw74
  rw [Ok_gd]
  refine ⟨h74.1, Ok.call (c_size h74) (fun q u hu => ?_)⟩
  have e2 : u = t := congrArg Prod.snd hu
  subst e2
  simp only [Ok_pif, Ok_some]
  refine ⟨fun _ => ?_, fun _ => ht⟩
  rw [e8, Ok_ono]
  refine ⟨74, rfl, ?_⟩
  rw [Ok_gd]
  refine ⟨h74.1, Ok.call (c_size h74) (fun q2 u2 hu2 => ?_)⟩
  have e3 : q2 = qI u 74 1 := congrArg Prod.fst hu2
  have e4 : u2 = u := congrArg Prod.snd hu2
  subst e4
  subst e3
  have hl := h74.2.2.2.2
  rw [Ok_ono]
  refine ⟨row, rfl, ?_⟩
  rw [Ok_gd]
  refine ⟨(ht.1.rw hrw).1, Ok.callv (c_become (ht.1.rw hrw) h74 (isRw.ne hrw rw74) (by decide) (by decide) (by omega)) (fun v hv => ?_)⟩
  have hSv := ht.tr (Sf.row ht.1 hrw hv.1 hv.2)
  refine Ok.call (c_size (hSv.1.rw hrw)) (fun q3 u3 hu3 => ?_)
  have e5 : u3 = v := congrArg Prod.snd hu3
  subst e5
  rw [Ok_some]
  exact hSv
/-- a row becomes empty -/
theorem c_cut0 {g : CS} {r cap : Nat} (h : CI g) (hr : isRw r cap) : Ok (fX5_cut r 0 g) (fun q => Sf g q.2) := by
  have hi := h.rw hr
  refine (c_cut hi).mono (fun q hq => ?_)
  have h0 := hi.2.2.2.2.1
  rw [pif_pos ⟨by decide, by show (0 : Int) ≤ _; exact h0⟩] at hq
  rw [hq]
  exact Sf.row h hr (Cf.rf.wI (by simp)) (hi.wS (by decide) (by show (0 : Int) ≤ _; omega))
theorem c_set {r m n : Int32} {v : Int64} {g : CS} (h : CI g) : Ok (fX8_set 32 r m n v g) (fun q => Sf g q.2) := by
  have no : Sf g g := Sf.rf h
  unfold fX8_set
  rw [Ok_gd]
  refine ⟨h.1.1, Ok.same (c_recordOf h) (fun o1 h1 => Ok.same (c_mk h) (fun o2 h2 => Ok.same (c_fieldOf h) (fun o3 h3 => ?_)))⟩
  simp only [Ok_pif, Ok_some]
  refine ⟨fun _ => no, fun c1 => ⟨fun _ => no, fun c2 => ⟨fun _ => no, fun c3 => ?_⟩⟩⟩
  obtain ⟨row, e1⟩ := Option.ne_none_iff_exists'.mp c1
  obtain ⟨mk, e2⟩ := Option.ne_none_iff_exists'.mp c2
  obtain ⟨f, e3⟩ := Option.ne_none_iff_exists'.mp c3
  subst e1
  subst e2
  subst e3
  have hrw := h1.1 row rfl
  have hmk := h2 mk rfl
  have hf := h3 f rfl
  rw [Ok_ono]
  refine ⟨f, rfl, ?_⟩
  rw [Ok_gd]
  refine ⟨hf.1, Ok.d01 (c_isNumber hf.1) ?_ ?_⟩
  · simp only [Ok_pif, Ok_some]; exact ⟨fun _ => no, fun h => by simp at h⟩
  simp only [Ok_pif, Ok_some]
  refine ⟨fun h => absurd h (by decide), fun _ => ?_⟩
  rw [h.1.2.2.2.2.2.1, Ok_ono]
  refine ⟨48, rfl, ?_⟩
  rw [Ok_gd]
  refine ⟨h.2.2.2.1.1, Ok.call (c_isSound h hrw (fun x hx => h2 x hx)) (fun q t ht => ?_)⟩
  obtain ⟨hSt, -⟩ := ht
  have hSt : Sf g t := hSt
  simp only [Ok_pif, Ok_some]
  refine ⟨fun _ => hSt, fun _ => Ok.d01 (c_holds (hf.fr hSt.2).1) ?_ ?_⟩
  · simp only [Ok_pif, Ok_some]; exact ⟨fun _ => hSt, fun h => by simp at h⟩
  simp only [Ok_pif, Ok_some]
  refine ⟨fun h => absurd h (by decide), fun _ => ?_⟩
  rw [hSt.1.1.2.2.2.2.2.2.2.2.1, Ok_ono]
  refine ⟨72, rfl, ?_⟩
  rw [Ok_gd]
  refine ⟨(hSt.1.rw rw72).1, Ok.call (c_cut0 hSt.1 rw72) (fun q2 u hu => ?_)⟩
  have hSu : Sf g u := hSt.tr hu
  rw [hSu.1.1.2.2.2.2.2.2.2.2.1, Ok_ono]
  refine ⟨72, rfl, ?_⟩
  rw [Ok_gd]
  refine ⟨(hSu.1.rw rw72).1, Ok.callv (c_pushKey (hSu.1.rw rw72) (hf.fr hSu.2).1) (fun w hw => ?_)⟩
  have hSw := hSu.tr (Sf.row hSu.1 rw72 hw.1 hw.2)
  rw [hSw.1.1.2.2.2.2.2.2.2.2.1, Ok_ono]
  refine ⟨72, rfl, ?_⟩
  rw [Ok_gd]
  refine ⟨(hSw.1.rw rw72).1, Ok.callv (c_pushNumber (hSw.1.rw rw72)) (fun y hy => ?_)⟩
  have hSy := hSw.tr (Sf.row hSw.1 rw72 hy.1 hy.2)
  exact Ok.call (c_settle hSy.1 hrw (hmk.fr hSy.2)) (fun q3 x hx => by rw [Ok_some]; exact hSy.tr hx)
theorem c_drop {r m n : Int32} {g : CS} (h : CI g) : Ok (fX8_drop 32 r m n g) (fun q => Sf g q.2) := by
  have no : Sf g g := Sf.rf h
  unfold fX8_drop
  rw [Ok_gd]
  refine ⟨h.1.1, Ok.same (c_recordOf h) (fun o1 h1 => Ok.same (c_mk h) (fun o2 h2 => Ok.same (c_fieldOf h) (fun o3 h3 => ?_)))⟩
  simp only [Ok_pif, Ok_some]
  refine ⟨fun _ => no, fun c1 => ⟨fun _ => no, fun c2 => ⟨fun _ => no, fun c3 => ?_⟩⟩⟩
  obtain ⟨row, e1⟩ := Option.ne_none_iff_exists'.mp c1
  obtain ⟨mk, e2⟩ := Option.ne_none_iff_exists'.mp c2
  obtain ⟨f, e3⟩ := Option.ne_none_iff_exists'.mp c3
  subst e1
  subst e2
  subst e3
  have hrw := h1.1 row rfl
  have hmk := h2 mk rfl
  have hf := h3 f rfl
  rw [Ok_ono]
  refine ⟨f, rfl, ?_⟩
  rw [Ok_gd]
  refine ⟨hf.1, ?_⟩
  simp only [Ok_pif, Ok_some]
  refine ⟨fun _ => no, fun _ => ?_⟩
  rw [h.1.2.2.2.2.2.1, Ok_ono]
  refine ⟨48, rfl, ?_⟩
  rw [Ok_gd]
  refine ⟨h.2.2.2.1.1, Ok.call (c_isSound h hrw (fun x hx => h2 x hx)) (fun q t ht => ?_)⟩
  obtain ⟨hSt, -⟩ := ht
  have hSt : Sf g t := hSt
  simp only [Ok_pif, Ok_some]
  refine ⟨fun _ => hSt, fun _ => ?_⟩
  rw [hSt.1.1.2.2.2.2.2.2.2.2.1, Ok_ono]
  refine ⟨72, rfl, ?_⟩
  rw [Ok_gd]
  refine ⟨(hSt.1.rw rw72).1, Ok.call (c_cut0 hSt.1 rw72) (fun q2 u hu => ?_)⟩
  have hSu : Sf g u := hSt.tr hu
  exact Ok.call (c_settle hSu.1 hrw (hmk.fr hSu.2)) (fun q3 x hx => by rw [Ok_some]; exact hSu.tr hx)
theorem c_nest {r m n o : Int32} {g : CS} (h : CI g) : Ok (fX8_nest 32 r m n o g) (fun q => Sf g q.2) := by
  have no : Sf g g := Sf.rf h
  unfold fX8_nest
  rw [Ok_gd]
  refine ⟨h.1.1, Ok.same (c_recordOf h) (fun o1 h1 => Ok.same (c_recordOf h) (fun o4 h4 => Ok.same (c_mk h) (fun o2 h2 => Ok.same (c_fieldOf h) (fun o3 h3 => ?_))))⟩
  simp only [Ok_pif, Ok_some]
  refine ⟨fun _ => no, fun c1 => ⟨fun _ => no, fun c4 => ⟨fun _ => no, fun c2 => ⟨fun _ => no, fun c3 => ?_⟩⟩⟩⟩
  obtain ⟨row, e1⟩ := Option.ne_none_iff_exists'.mp c1
  obtain ⟨oth, e4⟩ := Option.ne_none_iff_exists'.mp c4
  obtain ⟨mk, e2⟩ := Option.ne_none_iff_exists'.mp c2
  obtain ⟨f, e3⟩ := Option.ne_none_iff_exists'.mp c3
  subst e1
  subst e2
  subst e3
  subst e4
  have hrw := h1.1 row rfl
  have how := h4.1 oth rfl
  have hmk := h2 mk rfl
  have hf := h3 f rfl
  rw [Ok_ono]
  refine ⟨f, rfl, ?_⟩
  rw [Ok_gd]
  refine ⟨hf.1, ?_⟩
  simp only [Ok_pif, Ok_some]
  refine ⟨fun _ => ⟨fun _ => no, fun _ => Ok.same (c_mk h) (fun o5 h5 => ?_)⟩, fun _ => no⟩
  simp only [Ok_pif, Ok_some]
  refine ⟨fun _ => no, fun c5 => ?_⟩
  obtain ⟨ins, e5⟩ := Option.ne_none_iff_exists'.mp c5
  subst e5
  have hins := h5 ins rfl
  rw [h.1.2.2.2.2.2.1, Ok_ono]
  refine ⟨48, rfl, ?_⟩
  rw [Ok_gd]
  refine ⟨h.2.2.2.1.1, Ok.call (c_isSound h hrw (fun x hx => h2 x hx)) (fun q t ht => ?_)⟩
  obtain ⟨hSt, -⟩ := ht
  have hSt : Sf g t := hSt
  simp only [Ok_pif, Ok_some]
  refine ⟨fun _ => hSt, fun _ => ?_⟩
  rw [hSt.1.1.2.2.2.2.2.1, Ok_ono]
  refine ⟨48, rfl, ?_⟩
  rw [Ok_gd]
  refine ⟨hSt.1.2.2.2.1.1, Ok.call (c_isSound hSt.1 how (fun x hx => (h5 x hx).fr hSt.2)) (fun q' t' ht' => ?_)⟩
  obtain ⟨hSt', -⟩ := ht'
  have hSt' : Sf g t' := hSt.tr hSt'
  simp only [Ok_pif, Ok_some]
  refine ⟨fun _ => hSt', fun _ => ?_⟩
  rw [hSt'.1.1.2.2.2.2.2.2.1, hSt'.1.1.2.2.2.2.2.2.2.2.2, Ok_ono]
  refine ⟨58, rfl, ?_⟩
  rw [Ok_gd]
  refine ⟨hSt'.1.2.2.2.2.1.1, Ok.callv (c_rewrite hSt'.1 how rw74 (hins.fr hSt'.2)) (fun u0 hu0 => ?_)⟩
  have hS0 : Sf g u0 := hSt'.tr hu0
  rw [hS0.1.1.2.2.2.2.2.2.2.2.1, Ok_ono]
  refine ⟨72, rfl, ?_⟩
  rw [Ok_gd]
  refine ⟨(hS0.1.rw rw72).1, Ok.call (c_cut0 hS0.1 rw72) (fun q2 u hu => ?_)⟩
  have hSu : Sf g u := hS0.tr hu
  rw [hSu.1.1.2.2.2.2.2.2.2.2.1, Ok_ono]
  refine ⟨72, rfl, ?_⟩
  rw [Ok_gd]
  refine ⟨(hSu.1.rw rw72).1, Ok.callv (c_pushKey (hSu.1.rw rw72) (hf.fr hSu.2).1) (fun w hw => ?_)⟩
  have hSw := hSu.tr (Sf.row hSu.1 rw72 hw.1 hw.2)
  have h74 := hSw.1.rw rw74
  rw [hSw.1.1.2.2.2.2.2.2.2.2.2, hSw.1.1.2.2.2.2.2.2.2.2.1, Ok_ono]
  refine ⟨74, rfl, ?_⟩
  rw [Ok_gd]
  refine ⟨h74.1, Ok.call (c_size h74) (fun qs us hus => ?_)⟩
  have e6 : us = w := congrArg Prod.snd hus
  subst e6
  rw [Ok_ono]
  refine ⟨72, rfl, ?_⟩
  rw [Ok_gd]
  refine ⟨(hSw.1.rw rw72).1, Ok.callv (c_pushVarint (hSw.1.rw rw72)) (fun y hy => ?_)⟩
  have hSy := hSw.tr (Sf.row hSw.1 rw72 hy.1 hy.2)
  have h74' := hSy.1.rw rw74
  rw [hSy.1.1.2.2.2.2.2.2.2.2.2, hSy.1.1.2.2.2.2.2.2.2.2.1, Ok_ono]
  refine ⟨74, rfl, ?_⟩
  rw [Ok_gd]
  refine ⟨h74'.1, Ok.call (c_size h74') (fun qz uz huz => ?_)⟩
  have e7 : uz = y := congrArg Prod.snd huz
  have e8 : qz = qI y 74 1 := congrArg Prod.fst huz
  subst e7
  subst e8
  have hl := h74'.2.2.2.2
  rw [Ok_ono]
  refine ⟨72, rfl, ?_⟩
  rw [Ok_gd]
  refine ⟨(hSy.1.rw rw72).1, Ok.callv (c_append (hSy.1.rw rw72) h74' (isRw.ne rw72 rw74) (by decide) (by decide) (by omega)) (fun z hz => ?_)⟩
  have hSz := hSy.tr (Sf.row hSy.1 rw72 hz.1 hz.2)
  exact Ok.call (c_settle hSz.1 hrw (hmk.fr hSz.2)) (fun q3 x hx => by rw [Ok_some]; exact hSz.tr hx)
theorem c_kept {r m : Int32} {g : CS} (h : CI g) : Ok (fX8_kept 32 r m g) (fun q => Sf g q.2) := by
  have no : Sf g g := Sf.rf h
  unfold fX8_kept
  rw [Ok_gd]
  refine ⟨h.1.1, Ok.same (c_recordOf h) (fun o1 h1 => Ok.same (c_mk h) (fun o2 h2 => ?_))⟩
  simp only [Ok_pif, Ok_some]
  refine ⟨fun _ => no, fun c1 => ⟨fun _ => no, fun c2 => ?_⟩⟩
  obtain ⟨row, e1⟩ := Option.ne_none_iff_exists'.mp c1
  obtain ⟨mk, e2⟩ := Option.ne_none_iff_exists'.mp c2
  subst e1
  subst e2
  have hrw := h1.1 row rfl
  have hmk := h2 mk rfl
  rw [h.1.2.2.2.2.2.1, Ok_ono]
  refine ⟨48, rfl, ?_⟩
  rw [Ok_gd]
  refine ⟨h.2.2.2.1.1, Ok.call (c_isSound h hrw (fun x hx => h2 x hx)) (fun q t ht => ?_)⟩
  obtain ⟨hSt, -⟩ := ht
  have hSt : Sf g t := hSt
  simp only [Ok_pif, Ok_some]
  refine ⟨fun _ => hSt, fun _ => ?_⟩
  rw [hSt.1.1.2.2.2.2.2.1, Ok_ono]
  refine ⟨48, rfl, ?_⟩
  rw [Ok_gd]
  exact ⟨hSt.1.2.2.2.1.1, Ok.call (c_countPieces hSt.1 hrw (hmk.fr hSt.2)) (fun q2 u hu => by rw [Ok_some]; exact hSt.tr hu)⟩
theorem c_write {r m o : Int32} {g : CS} (h : CI g) : Ok (fX8_write 32 r m o g) (fun q => Sf g q.2) := by
  have no : Sf g g := Sf.rf h
  unfold fX8_write
  rw [Ok_gd]
  refine ⟨h.1.1, Ok.same (c_recordOf h) (fun o1 h1 => Ok.same (c_recordOf h) (fun o4 h4 => Ok.same (c_mk h) (fun o2 h2 => ?_)))⟩
  simp only [Ok_pif, Ok_some]
  refine ⟨fun _ => no, fun c1 => ⟨fun _ => no, fun c4 => ⟨fun _ => no, fun c2 => ?_⟩⟩⟩
  obtain ⟨row, e1⟩ := Option.ne_none_iff_exists'.mp c1
  obtain ⟨oth, e4⟩ := Option.ne_none_iff_exists'.mp c4
  obtain ⟨mk, e2⟩ := Option.ne_none_iff_exists'.mp c2
  subst e1
  subst e2
  subst e4
  have hrw := h1.1 row rfl
  have how := h4.1 oth rfl
  have hmk := h2 mk rfl
  rw [h.1.2.2.2.2.2.1, Ok_ono]
  refine ⟨48, rfl, ?_⟩
  rw [Ok_gd]
  refine ⟨h.2.2.2.1.1, Ok.call (c_isSound h hrw (fun x hx => h2 x hx)) (fun q t ht => ?_)⟩
  obtain ⟨hSt, -⟩ := ht
  have hSt : Sf g t := hSt
  simp only [Ok_pif, Ok_some]
  refine ⟨fun _ => hSt, fun _ => ?_⟩
  rw [hSt.1.1.2.2.2.2.2.2.1, hSt.1.1.2.2.2.2.2.2.2.2.2, Ok_ono]
  refine ⟨58, rfl, ?_⟩
  rw [Ok_gd]
  refine ⟨hSt.1.2.2.2.2.1.1, Ok.callv (c_rewrite hSt.1 hrw rw74 (hmk.fr hSt.2)) (fun u hu => ?_)⟩
  have hSu : Sf g u := hSt.tr hu
  have h74 := hSu.1.rw rw74
  rw [hSu.1.1.2.2.2.2.2.2.2.2.2, Ok_ono]
  refine ⟨74, rfl, ?_⟩
  rw [Ok_gd]
  refine ⟨h74.1, Ok.call (c_size h74) (fun q2 u2 hu2 => ?_)⟩
  have e5 : q2 = qI u 74 1 := congrArg Prod.fst hu2
  have e6 : u2 = u := congrArg Prod.snd hu2
  subst e6
  subst e5
  have hl := h74.2.2.2.2
  rw [Ok_ono]
  refine ⟨oth, rfl, ?_⟩
  rw [Ok_gd]
  refine ⟨(hSu.1.rw how).1, Ok.callv (c_become (hSu.1.rw how) h74 (isRw.ne how rw74) (by decide) (by decide) (by omega)) (fun v hv => ?_)⟩
  have hSv := hSu.tr (Sf.row hSu.1 how hv.1 hv.2)
  exact Ok.call (c_size (hSv.1.rw how)) (fun q3 u3 hu3 => by
    have e7 : u3 = v := congrArg Prod.snd hu3
    rw [Ok_some, e7]
    exact hSv)
theorem c_clear {r : Int32} {g : CS} (h : CI g) : Ok (fX8_clear 32 r g) (fun q => Sf g q.2) := by
  unfold fX8_clear
  rw [Ok_gd]
  refine ⟨h.1.1, Ok.same (c_recordOf h) (fun o1 h1 => ?_)⟩
  simp only [Ok_pif, Ok_some, Ok_ono, Ok_gd]
  refine ⟨fun _ => Sf.rf h, fun c1 => ?_⟩
  obtain ⟨row, e1⟩ := Option.ne_none_iff_exists'.mp c1
  have hrw := h1.1 row e1
  refine ⟨row, e1, (h.rw hrw).1, Ok.call (c_size (h.rw hrw)) (fun q t ht => ?_)⟩
  have e2 : t = g := congrArg Prod.snd ht
  subst e2
  exact Ok.call (c_cut0 h hrw) (fun q2 u hu => by rw [Ok_some]; exact hu)
theorem c_at {r i : Int32} {g : CS} (h : CI g) : Ok (fX8_at 32 r i g) (fun q => q.2 = g) := by
  unfold fX8_at
  rw [Ok_gd]
  refine ⟨h.1.1, Ok.same (c_recordOf h) (fun o1 h1 => ?_)⟩
  simp only [Ok_pif, Ok_some, Ok_ono, Ok_gd]
  refine ⟨fun _ => trivial, fun c1 => ?_⟩
  obtain ⟨row, e1⟩ := Option.ne_none_iff_exists'.mp c1
  have hrw := h1.1 row e1
  exact ⟨row, e1, (h.rw hrw).1, Ok.call (c_byteAt (h.rw hrw)) (fun q t ht => by rw [Ok_some]; exact congrArg Prod.snd ht)⟩
theorem c_open {r m n o : Int32} {g : CS} (h : CI g) : Ok (fX8_open 32 r m n o g) (fun q => Sf g q.2) := by
  have no : Sf g g := Sf.rf h
  unfold fX8_open
  rw [Ok_gd]
  refine ⟨h.1.1, Ok.same (c_recordOf h) (fun o1 h1 => Ok.same (c_recordOf h) (fun o4 h4 => Ok.same (c_mk h) (fun o2 h2 => Ok.same (c_fieldOf h) (fun o3 h3 => ?_))))⟩
  simp only [Ok_pif, Ok_some]
  refine ⟨fun _ => no, fun c1 => ⟨fun _ => no, fun c4 => ⟨fun _ => no, fun c2 => ⟨fun _ => no, fun c3 => ?_⟩⟩⟩⟩
  obtain ⟨row, e1⟩ := Option.ne_none_iff_exists'.mp c1
  obtain ⟨oth, e4⟩ := Option.ne_none_iff_exists'.mp c4
  obtain ⟨mk, e2⟩ := Option.ne_none_iff_exists'.mp c2
  obtain ⟨f, e3⟩ := Option.ne_none_iff_exists'.mp c3
  subst e1
  subst e2
  subst e3
  subst e4
  have hrw := h1.1 row rfl
  have how := h4.1 oth rfl
  have hmk := h2 mk rfl
  have hf := h3 f rfl
  rw [Ok_ono]
  refine ⟨f, rfl, ?_⟩
  rw [Ok_gd]
  refine ⟨hf.1, ?_⟩
  simp only [Ok_pif, Ok_some]
  refine ⟨fun _ => ?_, fun _ => no⟩
  rw [h.1.2.2.2.2.2.1, Ok_ono]
  refine ⟨48, rfl, ?_⟩
  rw [Ok_gd]
  refine ⟨h.2.2.2.1.1, Ok.call (c_isSound h hrw (fun x hx => h2 x hx)) (fun q t ht => ?_)⟩
  obtain ⟨hSt, -⟩ := ht
  have hSt : Sf g t := hSt
  simp only [Ok_pif, Ok_some]
  refine ⟨fun _ => hSt, fun _ => ?_⟩
  rw [hSt.1.1.2.2.2.2.2.1, Ok_ono]
  refine ⟨48, rfl, ?_⟩
  rw [Ok_gd]
  refine ⟨hSt.1.2.2.2.1.1, Ok.call (c_find hSt.1 hrw) (fun p u hu => ?_)⟩
  obtain ⟨hu1, hu2⟩ := hu
  have hSu : Sf g u := hSt.tr hu1
  have f126 : ∀ v : CS, Sf g v → Ok (fX8_open_126 32 (some oth) v) (fun q => Sf g q.2) := by
    intro v hv
    unfold fX8_open_126
    rw [Ok_ono]
    refine ⟨oth, rfl, ?_⟩
    rw [Ok_gd]
    exact ⟨(hv.1.rw how).1, Ok.call (c_size (hv.1.rw how)) (fun q3 u3 hu3 => by
      have e7 : u3 = v := congrArg Prod.snd hu3
      rw [Ok_some, e7]
      exact hv)⟩
  simp only [Ok_pif]
  refine ⟨fun _ => ?_, fun c => ?_⟩
  · rw [Ok_ono]
    refine ⟨oth, rfl, ?_⟩
    rw [Ok_gd]
    exact ⟨(hSu.1.rw how).1, Ok.call (c_cut0 hSu.1 how) (fun q2 w hw => f126 w (hSu.tr hw))⟩
  · obtain ⟨hp1, hp2⟩ : p = some 50 ∧ PcO u 50 := hu2.resolve_left c
    rw [hp1, Ok_ono]
    refine ⟨50, rfl, ?_⟩
    rw [Ok_gd, Ok_ono]
    refine ⟨hp2.1, oth, rfl, ?_⟩
    rw [Ok_gd]
    exact ⟨(hSu.1.rw how).1, Ok.callv (c_become (hSu.1.rw how) (hSu.1.rw hrw) (isRw.ne how hrw) hp2.2.1 (by have := hp2.2.2; omega) hp2.2.2.2) (fun w hw => f126 w (hSu.tr (Sf.row hSu.1 how hw.1 hw.2)))⟩
theorem c_get {r m n w : Int32} {g : CS} (h : CI g) : Ok (fX8_get 32 r m n w g) (fun q => Sf g q.2) := by
  have no : Sf g g := Sf.rf h
  unfold fX8_get
  rw [Ok_gd]
  refine ⟨h.1.1, Ok.same (c_recordOf h) (fun o1 h1 => Ok.same (c_mk h) (fun o2 h2 => Ok.same (c_fieldOf h) (fun o3 h3 => ?_)))⟩
  simp only [Ok_pif, Ok_some]
  refine ⟨fun _ => no, fun c1 => ⟨fun _ => no, fun c2 => ⟨fun _ => no, fun c3 => ⟨fun _ => no, fun _ => ⟨fun _ => ?_, fun _ => no⟩⟩⟩⟩⟩
  obtain ⟨row, e1⟩ := Option.ne_none_iff_exists'.mp c1
  obtain ⟨mk, e2⟩ := Option.ne_none_iff_exists'.mp c2
  obtain ⟨f, e3⟩ := Option.ne_none_iff_exists'.mp c3
  subst e1
  subst e2
  subst e3
  have hrw := h1.1 row rfl
  have hmk := h2 mk rfl
  have hf := h3 f rfl
  rw [h.1.2.2.2.2.2.1, Ok_ono]
  refine ⟨48, rfl, ?_⟩
  rw [Ok_gd]
  refine ⟨h.2.2.2.1.1, Ok.call (c_isSound h hrw (fun x hx => h2 x hx)) (fun q t ht => ?_)⟩
  obtain ⟨hSt, -⟩ := ht
  have hSt : Sf g t := hSt
  have f95 : ∀ (o : Option Nat) (u : CS), Sf g u → (o = none ∨ o = some 50) → Ok (fX8_get_95 32 w (some f) o u) (fun q => Sf g q.2) := by
    intro o u hu ho
    unfold fX8_get_95 fX2_tells
    simp only [Ok_pif, Ok_some, Ok_ono, Ok_gd]
    have k50 : qk u 50 = 5 := hu.1.pc (Or.inl ⟨by omega, by omega⟩)
    refine ⟨fun _ => ⟨fun _ => hu, fun _ => hu⟩, fun _ => ⟨fun _ => ⟨f, rfl, (hf.fr hu.2).1, Ok.same (c_plainNumber (hf.fr hu.2)) (fun r _ => by rw [Ok_some]; exact hu)⟩, fun c => ⟨50, ho.resolve_left c, k50, ?_⟩⟩⟩
    rw [Ok_bnd, Ok_gd]
    refine ⟨k50, ?_⟩
    simp only [Ok_pif, Ok_some]
    refine ⟨fun _ => Ok.same (c_asNumber k50) (fun r _ => by rw [Ok_some]; exact hu), fun _ => hu⟩
  simp only [Ok_pif, Ok_some]
  refine ⟨fun _ => hSt, fun _ => ?_⟩
  rw [Ok_ono]
  refine ⟨f, rfl, ?_⟩
  rw [Ok_gd]
  refine ⟨(hf.fr hSt.2).1, ?_⟩
  simp only [Ok_pif]
  refine ⟨fun _ => f95 none t hSt (Or.inl rfl), fun _ => ?_⟩
  rw [hSt.1.1.2.2.2.2.2.1, Ok_ono]
  refine ⟨48, rfl, ?_⟩
  rw [Ok_gd]
  exact ⟨hSt.1.2.2.2.1.1, Ok.call (c_find hSt.1 hrw) (fun p u hu => f95 p u (hSt.tr hu.1) (hu.2.imp id (fun q => q.1)))⟩
theorem c_fault {w : Int32} {g : CS} (h : CI g) : Ok (fX8_fault 32 w g) (fun q => q.2 = g) := by
  unfold fX8_fault
  simp only [Ok_pif, Ok_some, Ok_gd]
  exact ⟨fun _ => ⟨h.1.1, trivial⟩, fun _ => ⟨fun _ => ⟨h.1.1, trivial⟩, fun _ => trivial⟩⟩
theorem c_by {g : CS} (h : CI g) : Ok (fX8_by 32 g) (fun q => q.2 = g) := by
  unfold fX8_by
  simp only [Ok_some, Ok_gd]
  exact ⟨h.1.1, trivial⟩
theorem c_plain {m n : Int32} {g : CS} (h : CI g) : Ok (fX8_plain 32 m n g) (fun q => q.2 = g) := by
  unfold fX8_plain
  rw [Ok_gd]
  refine ⟨h.1.1, Ok.same (c_fieldOf h) (fun o ho => ?_)⟩
  simp only [Ok_pif, Ok_some, Ok_ono, Ok_gd]
  refine ⟨fun _ => trivial, fun c => ?_⟩
  obtain ⟨f, e⟩ := Option.ne_none_iff_exists'.mp c
  exact ⟨f, e, (ho f e).1, Ok.same (c_plainNumber (ho f e)) (fun r _ => by rw [Ok_some])⟩
theorem c_field {m n w : Int32} {g : CS} (h : CI g) : Ok (fX8_field 32 m n w g) (fun q => q.2 = g) := by
  unfold fX8_field
  rw [Ok_gd]
  refine ⟨h.1.1, Ok.same (c_fieldOf h) (fun o ho => ?_)⟩
  simp only [Ok_pif, Ok_some, Ok_ono, Ok_gd]
  refine ⟨fun _ => trivial, fun c => ?_⟩
  obtain ⟨f, e⟩ := Option.ne_none_iff_exists'.mp c
  have hf := ho f e
  obtain ⟨s, e4, hs⟩ := hf.2.2.2.1
  exact ⟨fun _ => ⟨f, e, hf.1, trivial⟩, fun _ => ⟨fun _ => ⟨f, e, hf.1, trivial⟩, fun _ => ⟨fun _ => ⟨f, e, hf.1, trivial⟩, fun _ => ⟨fun _ => ⟨f, e, hf.1, s, e4, hs.1, Ok.same (c_strlen hs) (fun r _ => by rw [Ok_some])⟩, fun _ => trivial⟩⟩⟩⟩
