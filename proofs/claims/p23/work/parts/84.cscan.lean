/-- answers 0 or 1, and changes nothing -/
def D01 (g : CS) (q : Int32 × CS) : Prop := q.2 = g ∧ (q.1 = 0 ∨ q.1 = 1)
theorem Ok.d01 {β : Type} {g : CS} {x : Option (Int32 × CS)} {k : Int32 → CS → Option β} {P : β → Prop} (h : Ok x (D01 g)) (h0 : Ok (k 0 g) P) (h1 : Ok (k 1 g) P) : Ok (bnd x k) P := Ok.call h (fun r t ht => by
  obtain ⟨t1, t2⟩ := ht
  have t1 : t = g := t1
  subst t1
  rcases t2 with t2 | t2
  · have t2 : r = 0 := t2
    rw [t2]; exact h0
  · have t2 : r = 1 := t2
    rw [t2]; exact h1)
/-- changes nothing -/
def SmP {α : Type} (g : CS) (Q : α → Prop) (q : α × CS) : Prop := q.2 = g ∧ Q q.1
/-- a call that changes nothing -/
theorem Ok.same {α β : Type} {g : CS} {x : Option (α × CS)} {Q : α → Prop} {k : α → CS → Option β} {P : β → Prop} (h : Ok x (SmP g Q)) (hk : ∀ r, Q r → Ok (k r g) P) : Ok (bnd x k) P := Ok.call h (fun r t ht => by
  obtain ⟨t1, t2⟩ := ht
  have t1 : t = g := t1
  subst t1
  exact hk r t2)
theorem c_makeOf {m : Int32} {g : CS} (h : CI g) : Ok (fX8_makeOf (some 44) m g) (SmP g (fun o => ∀ x, o = some x → MkO g x)) := by
  obtain ⟨h1, h2, h3⟩ := h.2.2.1
  unfold fX8_makeOf
  simp only [Ok_pif, Ok_some, Ok_gd, Ok_ono]
  refine ⟨fun _ => ⟨rfl, fun x hx => by cases hx⟩, fun c => ⟨44, rfl, h1, fun _ => ⟨rfl, fun x hx => by cases hx⟩, fun d => ?_⟩⟩
  rw [t_le, e_nI (by rw [h2]; decide), h2] at d
  rw [t_lt, show (0 : Int32).toInt = 0 from rfl] at c
  rw [t_in, h2]
  have d : ¬ (8 : Int) ≤ m.toInt := d
  exact ⟨by omega, rfl, fun x hx => h3 _ (by rw [t_nat]; omega) x hx⟩
theorem c_fieldAt {mk : Nat} {n : Int32} {g : CS} (h : MkO g mk) : Ok (fX1_fieldAt mk n g) (SmP g (fun o => ∀ x, o = some x → FdO g x)) := by
  obtain ⟨h1, -, a, h2, h3, h4, -, h5⟩ := h
  unfold fX1_fieldAt
  simp only [Ok_pif, Ok_some, Ok_gd, Ok_ono]
  refine ⟨fun _ => ⟨rfl, fun x hx => by cases hx⟩, fun c => ⟨h1, a, h2, h3, fun _ => ⟨rfl, fun x hx => by cases hx⟩, fun d => ?_⟩⟩
  rw [t_le, e_nI (by rw [h4]; decide), h4] at d
  rw [t_lt, show (0 : Int32).toInt = 0 from rfl] at c
  rw [t_in, h4]
  have d : ¬ (31 : Int) ≤ n.toInt := d
  exact ⟨by omega, rfl, fun x hx => h5 _ (by rw [t_nat]; omega) x hx⟩
theorem c_knownAt {mk : Nat} {n : Int32} {g : CS} (h : MkO g mk) : Ok (fX1_knownAt mk n g) (SmP g (fun o => ∀ x, o = some x → FdO g x)) := by
  unfold fX1_knownAt
  rw [Ok_gd]
  refine ⟨h.1, Ok.same (c_fieldAt h) (fun r hr => ?_)⟩
  simp only [Ok_pif, Ok_some, Ok_gd, Ok_ono]
  refine ⟨fun _ => ⟨rfl, fun x hx => by cases hx⟩, fun c => ?_⟩
  obtain ⟨f, hf⟩ := Option.ne_none_iff_exists'.mp c
  exact ⟨f, hf, (hr f hf).1, fun _ => ⟨rfl, fun x hx => by cases hx⟩, fun _ => ⟨rfl, hr⟩⟩
theorem c_isNumber {f : Nat} {g : CS} (h : qk g f = 3) : Ok (fX0_isNumber f g) (D01 g) := by
  unfold fX0_isNumber
  simp only [Ok_pif, Ok_some, Ok_gd]
  exact ⟨h, fun _ => ⟨rfl, Or.inl rfl⟩, fun _ => ⟨fun _ => ⟨rfl, Or.inl rfl⟩, fun _ => ⟨rfl, Or.inr rfl⟩⟩⟩
theorem c_holds {f : Nat} {v : Int64} {g : CS} (h : qk g f = 3) : Ok (fX0_holds f v g) (D01 g) := by
  unfold fX0_holds
  simp only [Ok_pif, Ok_some, Ok_gd]
  have y : D01 g (1, g) := ⟨rfl, Or.inr rfl⟩
  have n : D01 g (0, g) := ⟨rfl, Or.inl rfl⟩
  exact ⟨h, fun _ => ⟨fun _ => n, fun _ => ⟨fun _ => n, fun _ => y⟩⟩, fun _ => ⟨fun _ => ⟨fun _ => n, fun _ => ⟨fun _ => n, fun _ => y⟩⟩, fun _ => ⟨fun _ => ⟨fun _ => n, fun _ => ⟨fun _ => n, fun _ => y⟩⟩, fun _ => ⟨fun _ => y, fun _ => n⟩⟩⟩⟩
theorem c_asNumber {p : Nat} {g : CS} (h : qk g p = 5) : Ok (fX2_asNumber p g) (SmP g (fun _ => True)) := by
  unfold fX2_asNumber
  rw [Ok_gd, Ok_some]
  exact ⟨h, rfl, trivial⟩
theorem nar01 {r : Int32} (h : r = 0 ∨ r = 1) : narrow .boolean (.int r) = .int r := by rcases h with h | h <;> rw [h] <;> decide
/-- a piece whose body and end may be -/
def PcO (g : CS) (p : Nat) : Prop := qk g p = 5 ∧ 0 ≤ (qI g p 3).toInt ∧ (qI g p 3).toInt ≤ (qI g p 4).toInt ∧ (qI g p 4).toInt ≤ 1000
theorem c_fits {p f row cap : Nat} {g : CS} (hp : PcO g p) (hf : FdO g f) (hr : RowI g row cap) : Ok (fX3_fits (some p) (some f) (some row) g) (D01 g) := by
  obtain ⟨p1, p2, p3, p4⟩ := hp
  unfold fX3_fits
  simp only [Ok_ono]
  refine ⟨f, rfl, ?_⟩
  rw [Ok_gd]
  refine ⟨hf.1, Ok.d01 (c_isNumber hf.1) ?_ ?_⟩
  · simp only [Ok_pif, Ok_some, Ok_gd, Ok_ono]
    refine ⟨fun _ => ⟨fun _ => ⟨p, rfl, p1, row, rfl, hr.1, Ok.d01 ((c_isText hr p2 (by omega) (by omega) p4).mono (fun q hq => hq)) ?_ ?_⟩, fun _ => ⟨rfl, Or.inr rfl⟩⟩, fun h => by simp at h⟩
    · simp only [Ok_pif, Ok_some]; exact ⟨fun _ => ⟨rfl, Or.inl rfl⟩, fun h => by simp at h⟩
    · simp only [Ok_pif, Ok_some]; exact ⟨fun h => absurd h (by decide), fun _ => ⟨rfl, Or.inr rfl⟩⟩
  · simp only [Ok_pif, Ok_ono, Ok_gd]
    refine ⟨fun h => absurd h (by decide), fun _ => ⟨p, rfl, p1, Ok.same (c_asNumber p1) (fun v _ => Ok.d01 (c_holds hf.1) ?_ ?_)⟩⟩
    · simp only [Ok_gd, Ok_some]; exact ⟨by decide, rfl, Or.inl rfl⟩
    · simp only [Ok_gd, Ok_some]; exact ⟨by decide, rfl, Or.inr rfl⟩
theorem c_groupBit {o : Option Nat} {g : CS} (hf : ∀ x, o = some x → FdO g x) : Ok (fX3_groupBit o g) (SmP g (fun _ => True)) := by
  unfold fX3_groupBit
  simp only [Ok_pif, Ok_some, Ok_gd, Ok_ono]
  refine ⟨fun _ => ⟨rfl, trivial⟩, fun c => ?_⟩
  obtain ⟨f, e⟩ := Option.ne_none_iff_exists'.mp c
  exact ⟨f, e, (hf f e).1, fun _ => ⟨rfl, trivial⟩, fun _ => ⟨rfl, trivial⟩⟩
theorem c_isRec {o : Option Nat} {g : CS} (hf : ∀ x, o = some x → FdO g x) : Ok (fX3_isRec o g) (SmP g (fun r => r = 0 ∨ r = 1 ∧ ∃ f, o = some f)) := by
  unfold fX3_isRec
  simp only [Ok_pif, Ok_some, Ok_gd, Ok_ono]
  refine ⟨fun _ => ⟨rfl, Or.inl rfl⟩, fun c => ?_⟩
  obtain ⟨f, e⟩ := Option.ne_none_iff_exists'.mp c
  exact ⟨f, e, (hf f e).1, fun _ => ⟨rfl, Or.inr ⟨rfl, f, e⟩⟩, fun _ => ⟨rfl, Or.inl rfl⟩⟩
theorem c_faultOf {p row cap : Nat} {o : Option Nat} {a b : Int32} {g : CS} (hp : PcO g p) (hf : ∀ x, o = some x → FdO g x) (hr : RowI g row cap) : Ok (fX3_faultOf (some p) o (some row) a b g) (SmP g (fun _ => True)) := by
  have f44 : Ok (fX3_faultOf_44 (some p) o a b g) (SmP g (fun _ => True)) := by
    unfold fX3_faultOf_44
    simp only [Ok_pif, Ok_some, Ok_gd, Ok_ono]
    refine ⟨p, rfl, hp.1, fun _ => Ok.same (c_groupBit hf) (fun r _ => ?_), fun _ => ⟨rfl, trivial⟩⟩
    simp only [Ok_pif, Ok_some]
    exact ⟨fun _ => ⟨rfl, trivial⟩, fun _ => ⟨rfl, trivial⟩⟩
  have f29 : Ok (fX3_faultOf_29 (some p) o (some row) a b g) (SmP g (fun _ => True)) := by
    unfold fX3_faultOf_29
    simp only [Ok_pif]
    refine ⟨fun _ => f44, fun c => ?_⟩
    obtain ⟨f, e⟩ := Option.ne_none_iff_exists'.mp c
    subst e
    refine Ok.d01 (c_fits hp (hf f rfl) hr) ?_ ?_
    · simp only [Ok_pif, Ok_some]; exact ⟨fun _ => ⟨rfl, trivial⟩, fun h => by simp at h⟩
    · simp only [Ok_pif, Ok_some]; exact ⟨fun h => absurd h (by decide), fun _ => f44⟩
  unfold fX3_faultOf
  simp only [Ok_pif, Ok_some, Ok_gd, Ok_ono]
  refine ⟨p, rfl, hp.1, fun _ => ⟨fun _ => f29, fun c => ?_⟩, fun _ => ⟨rfl, trivial⟩⟩
  obtain ⟨f, e⟩ := Option.ne_none_iff_exists'.mp c
  refine ⟨f, e, (hf f e).1, Ok.d01 ((c_hasLength (hf f e).1).mono (fun q hq => hq)) ?_ ?_⟩
  · simp only [Ok_pif, Ok_some]; exact ⟨fun _ => f29, fun _ => ⟨rfl, trivial⟩⟩
  · simp only [Ok_pif, Ok_some]; exact ⟨fun _ => f29, fun _ => ⟨rfl, trivial⟩⟩
/-- what a scan at depth D leaves: the pieces ahead of it as they were -/
def ScP (g : CS) (D : Nat) (q : Int32 × CS) : Prop := Sf g q.2 ∧ (q.1 = 0 ∨ q.1 = 1) ∧ ∀ j, j < D → j < 8 → qI q.2 (50 + j) = qI g (50 + j)
theorem c_refuse {D : Nat} {a b : Int32} {g g0 : CS} (h : CI g) (hS : Sf g0 g) (hD : ∀ j, j < D → j < 8 → qI g (50 + j) = qI g0 (50 + j)) : Ok (gd (qk g 48 = 6) (bnd (fX3_refuse 48 a b g) (fun r t => gd (narrow .boolean (.int r) = .int r) (some (r, t))))) (ScP g0 D) := by
  unfold fX3_refuse
  simp only [Ok_gd, Ok_bnd, Ok_some, Ok_nam]
  have hF : Cf [48] g (wI (wI g 48 2 a) 48 3 b) := (Cf.rf.wI (by simp)).wI (by simp)
  exact ⟨h.2.2.2.1.1, h.2.2.2.1.1, by decide, hS.tr (Sf.ob h hF (by decide) (by decide)), Or.inl rfl, fun j h1 h2 => (hF.i (by simp; omega)).trans (hD j h1 h2)⟩
set_option maxHeartbeats 2000000 in
theorem c_scan48 (d : Nat) (ihd : ∀ (row cap D : Nat) (fr to dp : Int32) (mk : Option Nat) (g : CS), isRw row cap → CI g → dp.toInt = D → D ≤ 8 → 8 < D + d → 0 ≤ fr.toInt → fr.toInt ≤ to.toInt → to.toInt ≤ 1000 → (∀ x, mk = some x → MkO g x) → Ok (fX3_scanN d 48 (some row) fr to mk dp g) (ScP g D)) (row cap D mk : Nat) (to dp : Int32) (g0 : CS) (hrw : isRw row cap) (hdp : dp.toInt = D) (hD : D < 8) (hd : 8 < D + 1 + d) (hto : to.toInt ≤ 1000) (hto0 : 0 ≤ to.toInt) (hmk0 : MkO g0 mk) : ∀ (z i : Nat) (l7 l8 l9 x : Int32) (g : CS), x.toInt = i → i ≤ 120 → 120 - i < z → 0 ≤ l9.toInt → l9.toInt ≤ to.toInt → Sf g0 g → (∀ j, j < D → j < 8 → qI g (50 + j) = qI g0 (50 + j)) → Ok (fX3_scan_48 48 (fX3_scanN d) z (some row) to (some mk) dp (some (50 + D)) l7 l8 l9 x g) (ScP g0 D) := by
  intro z
  induction z with
  | zero => intro i l7 l8 l9 x g a b c; omega
  | succ z ih =>
    intro i l7 l8 l9 x g hx hi hz h9 h9' hS hJ
    have hC := hS.1
    have e := inc (x := x) (by omega) (by omega)
    have hpc : isPc (50 + D) := Or.inl ⟨by omega, by omega⟩
    have hrow := hC.2.2.2.2.2.2.2.2.2.get hrw
    have hne : (50 + D) ≠ row ∧ (50 + D) ≠ row + 1 := by
      rcases hrw with ⟨q | q | q | q, -⟩ | ⟨q | q, -⟩ <;> omega
    rw [fX3_scan_48_s]
    simp only [Ok_pif, Ok_some, Ok_ono]
    rw [t_le, t_le, show (120 : Int32).toInt = 120 from rfl]
    refine ⟨fun _ => ⟨hS, Or.inr rfl, hJ⟩, fun c1 => ⟨fun _ => ⟨hS, Or.inr rfl, hJ⟩, fun c2 => ⟨50 + D, rfl, ?_⟩⟩⟩
    rw [Ok_gd]
    refine ⟨hC.pc hpc, Ok.callv (c_look (hC.pc hpc) hne h9 (by omega) hto hrow) (fun t ht => ?_)⟩
    obtain ⟨hFt, t1, t2, t3⟩ := ht
    have hSt := Sf.ob hC hFt hpc.in.1 hpc.in.2
    have hCt := hSt.1
    have hS2 := hS.tr hSt
    have hJ2 : ∀ j, j < D → j < 8 → qI t (50 + j) = qI g0 (50 + j) := fun j h1 h2 => (hFt.i (by simp; omega)).trans (hJ j h1 h2)
    have hmt : MkO t mk := hmk0.fr hS2.2
    have hpo : PcO t (50 + D) := ⟨hCt.pc hpc, by omega, t2, by omega⟩
    simp only [Ok_ono, Ok_gd]
    refine ⟨mk, rfl, hmt.1, Ok.same (c_knownAt hmt) (fun f hf => Ok.same (c_faultOf hpo hf (hCt.2.2.2.2.2.2.2.2.2.get hrw)) (fun w _ => ?_))⟩
    -- the piece is through
    have next : ∀ u : CS, Sf t u → (∀ j, j ≤ D → j < 8 → qI u (50 + j) = qI t (50 + j)) → Ok (fX3_scan_154 48 (fX3_scanN d) (fX3_scan_48 48 (fX3_scanN d) z) (some row) to (some mk) dp (some (50 + D)) l8 x f u) (ScP g0 D) := by
      intro u hu hJu
      unfold fX3_scan_154
      refine Ok.same (c_groupBit (fun y hy => (hf y hy).fr hu.2)) (fun r _ => ?_)
      simp only [Ok_nam, Ok_ono, Ok_gd]
      have e4 := hJu D (Nat.le_refl _) hD
      refine ⟨50 + D, rfl, hu.1.pc hpc, ih (i + 1) _ _ _ _ u (by rw [e, hx]; rfl) (by omega) (by omega) ?_ ?_ (hS2.tr hu) (fun j h1 h2 => (hJu j (by omega) h2).trans (hJ2 j h1 h2))⟩
      · rw [e4]; omega
      · rw [e4]; exact t3
    simp only [Ok_pif]
    refine ⟨fun _ => Ok.same (c_isRec hf) (fun r hr => ?_), fun _ => c_refuse hCt hS2 hJ2⟩
    simp only [Ok_pif, Ok_gd, Ok_ono]
    refine ⟨fun _ => next t (Sf.rf hCt) (fun _ _ _ => rfl), fun hr0 => ?_⟩
    obtain ⟨fx, hfx⟩ : ∃ fx, f = some fx := by
      rcases hr with q | q
      · exact absurd q hr0
      · exact q.2
    have e44 : qP t 48 0 = some 44 := hCt.2.2.2.1.2.1
    refine ⟨hCt.2.2.2.1.1, fx, hfx, (hf fx hfx).1, ?_⟩
    rw [e44]
    refine Ok.same (c_makeOf hCt) (fun mi hmi => ?_)
    have ed : (dp + 1).toInt = (D + 1 : Nat) := by rw [inc (by omega) (by omega), hdp]; rfl
    refine Ok.call (ihd row cap (D + 1) _ _ (dp + 1) mi t hrw hCt ed (by omega) hd (by omega) t2 (by omega) hmi) (fun r2 u hu => ?_)
    obtain ⟨u1, u2, u3⟩ := hu
    have u1 : Sf t u := u1
    simp only [Ok_pif, Ok_some]
    exact ⟨fun _ => ⟨hS2.tr u1, Or.inl rfl, fun j h1 h2 => (u3 j (by omega) h2).trans (hJ2 j h1 h2)⟩, fun _ => next u u1 (fun j h1 h2 => u3 j (by omega) h2)⟩
theorem c_scanN : ∀ (d row cap D : Nat) (fr to dp : Int32) (mk : Option Nat) (g : CS), isRw row cap → CI g → dp.toInt = D → D ≤ 8 → 8 < D + d → 0 ≤ fr.toInt → fr.toInt ≤ to.toInt → to.toInt ≤ 1000 → (∀ x, mk = some x → MkO g x) → Ok (fX3_scanN d 48 (some row) fr to mk dp g) (ScP g D) := by
  intro d
  induction d with
  | zero =>
    intro row cap D fr to dp mk g hrw hC hdp h8 hd h0 h1 hto hmk
    exact absurd hd (by omega)
  | succ d ihd =>
    intro row cap D fr to dp mk g hrw hC hdp h8 hd h0 h1 hto hmk
    show Ok (fX3_scan (fX3_scanN d) 48 (some row) fr to mk dp g) (ScP g D)
    unfold fX3_scan fX3_scan_20
    have hno := c_refuse (D := D) (a := 5) (b := fr) hC (Sf.rf hC) (fun _ _ _ => rfl)
    obtain ⟨r1, r2, r3, r4, r5, r6⟩ := hC.2.2.2.1
    simp only [Ok_pif]
    refine ⟨fun _ => hno, fun c => ⟨fun _ => hno, fun c0 => ?_⟩⟩
    rw [Ok_gd, Ok_ono]
    refine ⟨r1, 49, r3, ?_⟩
    simp only [Ok_gd, Ok_pif, Ok_nam]
    refine ⟨r4, fun c8 => ?_, fun _ => Ok_gd.mp hno⟩
    rw [t_lt, e_nI (by rw [r5]; decide), r5] at c8
    have c8 : dp.toInt < 8 := c8
    obtain ⟨m, hm⟩ := Option.ne_none_iff_exists'.mp c
    have dn : dp.toNatClampNeg = D := by rw [t_nat]; omega
    rw [t_lt, show (0 : Int32).toInt = 0 from rfl] at c0
    rw [t_in, r5, dn, (r6 D (by omega)).1, hm]
    exact ⟨by omega, c_scan48 d ihd row cap D m to dp g hrw hdp (by omega) (by omega) hto (by omega) (hmk m hm) fuel 0 0 0 fr 0 g rfl (by omega) (by unfold fuel; omega) h0 h1 (Sf.rf hC) (fun _ _ _ => rfl)⟩
theorem c_isSound {row cap : Nat} {mk : Option Nat} {g : CS} (h : CI g) (hrw : isRw row cap) (hmk : ∀ x, mk = some x → MkO g x) : Ok (fX3_isSound 48 (some row) mk g) (fun q => Sf g q.2 ∧ (q.1 = 0 ∨ q.1 = 1)) := by
  unfold fX3_isSound
  simp only [Ok_gd, Ok_nam, Ok_ono]
  have hF : Cf [48] g (wI (wI g 48 2 0) 48 3 (-1)) := (Cf.rf.wI (by simp)).wI (by simp)
  have hS := Sf.ob h hF (by decide) (by decide)
  generalize wI (wI g 48 2 0) 48 3 (-1) = g1 at hF hS ⊢
  have hr := hS.1.2.2.2.2.2.2.2.2.2.get hrw
  refine ⟨h.2.2.2.1.1, row, rfl, hr.1, Ok.call (c_size hr) (fun q t ht => ?_)⟩
  have e1 : q = qI g1 row 1 := congrArg Prod.fst ht
  have e2 : t = g1 := congrArg Prod.snd ht
  subst e2
  subst e1
  have hl := hr.2.2.2.2
  refine Ok.call (c_scanN 12 row cap 0 0 (qI t row 1) 0 mk t hrw hS.1 rfl (by omega) (by omega) (by decide) (by show (0 : Int) ≤ _; exact hl.1) (by omega) (fun x hx => (hmk x hx).fr hS.2)) (fun r u hu => ?_)
  obtain ⟨u1, u2, -⟩ := hu
  simp only [Ok_gd, Ok_some]
  exact ⟨nar01 u2, hS.tr u1, u2⟩
theorem c_count17 (row cap mk : Nat) (kn : Int32) (g0 : CS) (hrw : isRw row cap) (hmk : MkO g0 mk) : ∀ (z i : Nat) (c l6 x : Int32) (g : CS), x.toInt = i → i ≤ 120 → 120 - i < z → 0 ≤ l6.toInt → Sf g0 g → Ok (fX3_countPieces_17 48 z (some row) (some mk) kn (some 50) c l6 x g) (fun q => Sf g0 q.2) := by
  intro z
  induction z with
  | zero => intro i c l6 x g a b c; omega
  | succ z ih =>
    intro i c l6 x g hx hi hz h6 hS
    have hC := hS.1
    have e := inc (x := x) (by omega) (by omega)
    have hpc : isPc 50 := Or.inl ⟨by omega, by omega⟩
    have hrow := hC.2.2.2.2.2.2.2.2.2.get hrw
    have hne : 50 ≠ row ∧ 50 ≠ row + 1 := by
      rcases hrw with ⟨q | q | q | q, -⟩ | ⟨q | q, -⟩ <;> omega
    rw [fX3_countPieces_17_s]
    simp only [Ok_pif, Ok_some, Ok_ono, Ok_gd]
    rw [t_le, show (120 : Int32).toInt = 120 from rfl]
    refine ⟨fun _ => hS, fun c1 => ⟨row, rfl, hrow.1, Ok.call (c_size hrow) (fun q t ht => ?_)⟩⟩
    have e1 : q = qI g row 1 := congrArg Prod.fst ht
    have e2 : t = g := congrArg Prod.snd ht
    subst e2
    subst e1
    simp only [Ok_pif, Ok_some]
    rw [t_le]
    refine ⟨fun _ => hS, fun c2 => Ok.call (c_size hrow) (fun q' t' ht' => ?_)⟩
    have e1' : q' = qI t row 1 := congrArg Prod.fst ht'
    have e2' : t' = t := congrArg Prod.snd ht'
    subst e2'
    subst e1'
    have hl := hrow.2.2.2.2
    simp only [Ok_ono, Ok_gd]
    refine ⟨50, rfl, hC.pc hpc, Ok.callv (c_look (hC.pc hpc) hne h6 (by omega) (by omega) hrow) (fun u hu => ?_)⟩
    obtain ⟨hFu, u1, u2, u3⟩ := hu
    have hSu := hS.tr (Sf.ob hC hFu hpc.in.1 hpc.in.2)
    have hmu := hmk.fr hSu.2
    simp only [Ok_ono, Ok_gd]
    refine ⟨mk, rfl, hmu.1, Ok.same (c_knownAt hmu) (fun f hf => ?_)⟩
    unfold fX3_countPieces_62 fX3_countPieces_69
    simp only [Ok_pif, Ok_ono, Ok_gd, Ok_nam]
    have go : ∀ c', ∃ i_1, some 50 = some i_1 ∧ qk u i_1 = 5 ∧ Ok (fX3_countPieces_17 48 z (some row) (some mk) kn (some 50) c' (qI u i_1 4) (x + 1) u) (fun q => Sf g0 q.2) := fun c' => ⟨50, rfl, hSu.1.pc hpc, ih (i + 1) _ _ _ u (by rw [e, hx]; rfl) (by omega) (by omega) (by omega) hSu⟩
    exact ⟨fun _ => ⟨fun _ => go _, fun _ => go _⟩, fun _ => ⟨fun _ => go _, fun _ => go _⟩⟩
theorem c_countPieces {row cap mk : Nat} {kn : Int32} {g : CS} (h : CI g) (hrw : isRw row cap) (hmk : MkO g mk) : Ok (fX3_countPieces 48 (some row) (some mk) kn g) (fun q => Sf g q.2) := by
  obtain ⟨r1, r2, r3, r4, r5, r6⟩ := h.2.2.2.1
  unfold fX3_countPieces
  simp only [Ok_ono, Ok_gd, Ok_nam]
  refine ⟨r1, 49, r3, r4, by rw [t_in, r5]; decide, ?_⟩
  rw [show (0 : Int32).toNatClampNeg = 0 from rfl, (r6 0 (by omega)).1]
  exact c_count17 row cap mk kn g hrw hmk fuel 0 0 0 0 g rfl (by omega) (by unfold fuel; omega) (by decide) (Sf.rf h)
/-- the piece found, or none -/
def FiP (g0 : CS) (q : Option Nat × CS) : Prop := Sf g0 q.2 ∧ (q.1 = none ∨ q.1 = some 50 ∧ PcO q.2 50)
theorem c_find13 (row cap : Nat) (n : Int32) (g0 : CS) (hrw : isRw row cap) : ∀ (z i : Nat) (l6 x : Int32) (g : CS), x.toInt = i → i ≤ 120 → 120 - i < z → 0 ≤ l6.toInt → Sf g0 g → Ok (fX3_find_13 48 z (some row) n (some 50) l6 x g) (FiP g0) := by
  intro z
  induction z with
  | zero => intro i l6 x g a b c; omega
  | succ z ih =>
    intro i l6 x g hx hi hz h6 hS
    have hC := hS.1
    have e := inc (x := x) (by omega) (by omega)
    have hpc : isPc 50 := Or.inl ⟨by omega, by omega⟩
    have hrow := hC.2.2.2.2.2.2.2.2.2.get hrw
    have hne : 50 ≠ row ∧ 50 ≠ row + 1 := by
      rcases hrw with ⟨q | q | q | q, -⟩ | ⟨q | q, -⟩ <;> omega
    rw [fX3_find_13_s]
    simp only [Ok_pif, Ok_some, Ok_ono, Ok_gd]
    rw [t_le, show (120 : Int32).toInt = 120 from rfl]
    refine ⟨fun _ => ⟨hS, Or.inl rfl⟩, fun c1 => ⟨row, rfl, hrow.1, Ok.call (c_size hrow) (fun q t ht => ?_)⟩⟩
    have e1 : q = qI g row 1 := congrArg Prod.fst ht
    have e2 : t = g := congrArg Prod.snd ht
    subst e2
    subst e1
    simp only [Ok_pif, Ok_some]
    rw [t_le]
    refine ⟨fun _ => ⟨hS, Or.inl rfl⟩, fun c2 => Ok.call (c_size hrow) (fun q' t' ht' => ?_)⟩
    have e1' : q' = qI t row 1 := congrArg Prod.fst ht'
    have e2' : t' = t := congrArg Prod.snd ht'
    subst e2'
    subst e1'
    have hl := hrow.2.2.2.2
    simp only [Ok_ono, Ok_gd]
    refine ⟨50, rfl, hC.pc hpc, Ok.callv (c_look (hC.pc hpc) hne h6 (by omega) (by omega) hrow) (fun u hu => ?_)⟩
    obtain ⟨hFu, u1, u2, u3⟩ := hu
    have hSu := hS.tr (Sf.ob hC hFu hpc.in.1 hpc.in.2)
    simp only [Ok_pif, Ok_some, Ok_nam]
    exact ⟨fun _ => ⟨hSu, Or.inr ⟨rfl, hSu.1.pc hpc, by show 0 ≤ (qI u 50 3).toInt; omega, u2, by show (qI u 50 4).toInt ≤ 1000; omega⟩⟩, fun _ => ih (i + 1) _ _ u (by rw [e, hx]; rfl) (by omega) (by omega) (by omega) hSu⟩
theorem c_find {row cap : Nat} {n : Int32} {g : CS} (h : CI g) (hrw : isRw row cap) : Ok (fX3_find 48 (some row) n g) (FiP g) := by
  obtain ⟨r1, r2, r3, r4, r5, r6⟩ := h.2.2.2.1
  unfold fX3_find
  simp only [Ok_ono, Ok_gd, Ok_nam]
  refine ⟨r1, 49, r3, r4, by rw [t_in, r5]; decide, ?_⟩
  rw [show (0 : Int32).toNatClampNeg = 0 from rfl, (r6 0 (by omega)).1]
  exact c_find13 row cap n g hrw fuel 0 0 0 g rfl (by omega) (by unfold fuel; omega) (by decide) (Sf.rf h)
