/-- a field's sort: 0 a number -/
def srt (st : RS) (m n : Nat) : Int32 := if 5 ≤ gF st 1 (31 * m + n) then gF st 1 (31 * m + n) else 0
theorem r_sortOf {m n : Int32} {st : RS} (h1 : 0 ≤ m.toInt) (h2 : m.toInt < 8) (h3 : 0 ≤ n.toInt) (h4 : n.toInt ≤ 30) : Ok (x9_sortOf m n st) (fun q => q.2 = st ∧ q.1 = srt st m.toNatClampNeg n.toNatClampNeg) := by
  have e := i31 h1 h2 h3 h4
  have en := i31n h1 h2 h3 h4
  unfold x9_sortOf
  simp only [Ok_gd, Ok_nam, Ok_pif, Ok_some, t_in, e, en]
  refine ⟨by omega, fun c => ⟨trivial, ?_⟩, fun c => ⟨trivial, ?_⟩⟩
  · unfold srt; rw [if_pos c]
  · unfold srt; rw [if_neg c]
theorem r_isOther {a b n : Int32} {st : RS} (a1 : 0 ≤ a.toInt) (a2 : a.toInt < 8) (b1 : 0 ≤ b.toInt) (b2 : b.toInt < 8) (h3 : 0 ≤ n.toInt) (h4 : n.toInt ≤ 30) : Ok (x9_isOther a b n st) (BP (hasN st b.toNatClampNeg n.toNatClampNeg ∧ srt st a.toNatClampNeg n.toNatClampNeg ≠ srt st b.toNatClampNeg n.toNatClampNeg) st) := by
  unfold x9_isOther
  refine Ok.bp (r_has b1 b2) (fun hh => ?_) (fun hh => ?_)
  · simp only [Ok_pif, Ok_some]
    refine ⟨fun h => absurd h (by decide), fun _ => Ok.call (r_sortOf a1 a2 h3 h4) (fun q t hq => ?_)⟩
    obtain ⟨q1, q2⟩ := hq
    have q1 : t = st := q1
    have q2 : q = _ := q2
    subst q1
    refine Ok.call (r_sortOf b1 b2 h3 h4) (fun q' t' hq' => ?_)
    obtain ⟨p1, p2⟩ := hq'
    have p1 : t' = t := p1
    have p2 : q' = _ := p2
    subst p1
    rw [q2, p2]
    simp only [Ok_pif, Ok_some]
    exact ⟨fun c => BP.n (fun h => h.2 c), fun c => BP.y ⟨hh, c⟩⟩
  · simp only [Ok_pif, Ok_some]
    exact ⟨fun _ => BP.n (fun h => hh h.1), fun h => absurd trivial h⟩
theorem r_isNarrower {a b n : Int32} {st : RS} (a1 : 0 ≤ a.toInt) (a2 : a.toInt < 8) (b1 : 0 ≤ b.toInt) (b2 : b.toInt < 8) (h3 : 0 ≤ n.toInt) (h4 : n.toInt ≤ 30) : Ok (x9_isNarrower a b n st) (BP (hasN st b.toNatClampNeg n.toNatClampNeg ∧ srt st a.toNatClampNeg n.toNatClampNeg = 0 ∧ (gF st 1 (31 * b.toNatClampNeg + n.toNatClampNeg)).toInt < (gF st 1 (31 * a.toNatClampNeg + n.toNatClampNeg)).toInt) st) := by
  unfold x9_isNarrower
  refine Ok.bp (r_has b1 b2) (fun hh => ?_) (fun hh => ?_)
  · simp only [Ok_pif, Ok_some]
    refine ⟨fun h => absurd h (by decide), fun _ => Ok.call (r_sortOf a1 a2 h3 h4) (fun q t hq => ?_)⟩
    obtain ⟨q1, q2⟩ := hq
    have q1 : t = st := q1
    have q2 : q = _ := q2
    subst q1
    rw [q2]
    simp only [Ok_pif, Ok_some, Ok_gd, t_in, i31 a1 a2 h3 h4, i31 b1 b2 h3 h4, i31n a1 a2 h3 h4, i31n b1 b2 h3 h4]
    refine ⟨fun c => ⟨by omega, by omega, fun d => BP.n (fun h => ?_), fun d => BP.y ⟨hh, c, ?_⟩⟩, fun c => BP.n (fun h => c h.2.1)⟩
    · rw [t_le] at d; have := h.2.2; omega
    · rw [t_le] at d; omega
  · simp only [Ok_pif, Ok_some]
    exact ⟨fun _ => BP.n (fun h => hh h.1), fun h => absurd trivial h⟩
/-- answers 0 or 1, and changes nothing -/
def B01 (st : RS) (q : Int32 × RS) : Prop := q.2 = st ∧ (q.1 = 0 ∨ q.1 = 1)
theorem BP.b {c : Prop} {st : RS} {q : Int32 × RS} (h : BP c st q) : B01 st q := ⟨h.1, h.2.elim (fun h => Or.inr h.1) (fun h => Or.inl h.1)⟩
theorem r_differs64 (st : RS) (a n f g : Int32) (a1 : 0 ≤ a.toInt) (a2 : a.toInt < 8) (h3 : 0 ≤ n.toInt) (h4 : n.toInt ≤ 30) (f1 : 0 ≤ f.toInt) (f2 : f.toInt < 248) (g1 : 0 ≤ g.toInt) (g2 : g.toInt < 248) (hp : srt st a.toNatClampNeg n.toNatClampNeg = 5 → (gL st 6 f.toNatClampNeg).toInt ≤ 12) : ∀ (z i : Nat) (l6 x : Int32), x.toInt = i → i ≤ 12 → 12 - i < z → (l6 = 0 ∨ l6 = 1) → (i = 0 ∨ srt st a.toNatClampNeg n.toNatClampNeg = 5) → Ok (x9_differs_64 z a n f g l6 x st) (B01 st) := by
  intro z
  induction z with
  | zero => intro i l6 x h1 h2 h3; omega
  | succ z ih =>
    intro i l6 x hx hi hz h6 hs
    have e : (x + 1).toInt = x.toInt + 1 := by rw [t_add (by show -2147483648 ≤ x.toInt + 1; omega) (by show x.toInt + 1 < 2147483648; omega)]; rfl
    have nar : narrow .boolean (.int l6) = .int l6 := by rcases h6 with h | h <;> rw [h] <;> decide
    have m12 : ∀ y : Int32, 0 ≤ y.toInt → y.toInt < 248 → (12 * y + x).toInt = 12 * y.toInt + x.toInt := fun y y1 y2 => by
      have em : (12 * y).toInt = 12 * y.toInt := by
        rw [t_mul (by show -2147483648 ≤ 12 * y.toInt; omega) (by show 12 * y.toInt < 2147483648; omega)]
        rfl
      rw [t_add (by omega) (by omega), em]
    rw [x9_differs_64_s]
    unfold x9_differs_122 x9_differs_127
    simp only [Ok_gd, Ok_pif, Ok_some, lg_cmp_ge, t_in, Ok_nam]
    generalize x + 1 = x' at e ⊢
    refine ⟨by omega, fun c => ⟨nar, rfl, h6⟩, fun c => Ok.call (r_sortOf a1 a2 h3 h4) (fun q t hq => ?_)⟩
    obtain ⟨q1, q2⟩ := hq
    have q1 : t = st := q1
    have q2 : q = _ := q2
    subst q1
    rw [q2]
    rw [j_le, j_of] at c
    simp only [Ok_gd, Ok_pif, Ok_some, Ok_nam, m12 f f1 f2, m12 g g1 g2]
    refine ⟨fun s5 => ?_, fun _ => ⟨nar, rfl, h6⟩⟩
    have hp5 := hp s5
    refine ⟨fun _ => ⟨by omega, by omega, fun _ => ih (i + 1) 0 x' (by omega) (by omega) (by omega) (Or.inl rfl) (Or.inr s5), fun _ => ih (i + 1) 1 x' (by omega) (by omega) (by omega) (Or.inr rfl) (Or.inr s5)⟩, fun _ => ih (i + 1) 1 x' (by omega) (by omega) (by omega) (Or.inr rfl) (Or.inr s5)⟩
theorem srt_5 {st : RS} {m n : Nat} (h : srt st m n = 5) : gF st 1 (31 * m + n) = 5 := by
  unfold srt at h
  by_cases c : 5 ≤ gF st 1 (31 * m + n)
  · rw [if_pos c] at h; exact h
  · rw [if_neg c] at h; exact absurd h (by decide)
theorem srt_6 {st : RS} {m n : Nat} (h : srt st m n = 6) : gF st 1 (31 * m + n) = 6 := by
  unfold srt at h
  by_cases c : 5 ≤ gF st 1 (31 * m + n)
  · rw [if_pos c] at h; exact h
  · rw [if_neg c] at h; exact absurd h (by decide)
theorem r_differs {a b n : Int32} {st : RS} (hM : MkI st) (ha : mkN st a) (hb : mkN st b) (hn : hasN st a.toNatClampNeg n.toNatClampNeg) : Ok (x9_differs a b n st) (B01 st) := by
  have hn1 := hn.i
  unfold x9_differs
  refine Ok.bp (r_has hb.1 hb.2.1) (fun hh => ?_) (fun hh => ?_)
  · simp only [Ok_pif, Ok_some]
    refine ⟨fun h => absurd h (by decide), fun _ => Ok.call (r_sortOf ha.1 ha.2.1 (by omega) hn1.2) (fun q t hq => ?_)⟩
    obtain ⟨q1, q2⟩ := hq
    have q1 : t = st := q1
    subst q1
    have e1 := i31 ha.1 ha.2.1 (show 0 ≤ n.toInt by omega) hn1.2
    have e2 := i31 hb.1 hb.2.1 (show 0 ≤ n.toInt by omega) hn1.2
    have n1 := i31n ha.1 ha.2.1 (show 0 ≤ n.toInt by omega) hn1.2
    have a1 := ha.1
    have a2 := ha.2.1
    have b1 := hb.1
    have b2 := hb.2.1
    simp only [Ok_pif, Ok_some, Ok_nam, Ok_gd, t_in, e1, e2]
    refine ⟨fun _ => ⟨rfl, Or.inl rfl⟩, fun _ => ⟨by omega, by omega, fun _ => ?_, fun _ => ⟨rfl, Or.inr rfl⟩⟩⟩
    refine r_differs64 t a n _ _ a1 a2 (by omega) hn1.2 (by omega) (by omega) (by omega) (by omega) (fun h5 => ?_) fuel 0 0 0 rfl (by omega) (by unfold fuel; omega) (Or.inl rfl) (Or.inl rfl)
    rw [n1]
    exact ((hM a.toNatClampNeg n.toNatClampNeg (by rw [t_nat]; omega) ha.2.2 hn).2.2 (srt_5 h5)).2
  · simp only [Ok_pif, Ok_some]
    exact ⟨fun _ => ⟨rfl, Or.inl rfl⟩, fun h => absurd trivial h⟩
theorem r_isMated28 (st : RS) (a b n : Int32) (a1 : 0 ≤ a.toInt) (a2 : a.toInt < 8) (b1 : 0 ≤ b.toInt) (b2 : b.toInt < 8) (h3 : 0 ≤ n.toInt) (h4 : n.toInt ≤ 30) : ∀ (z i : Nat) (x : Int32), x.toInt = i → i ≤ 31 → 31 - i < z → Ok (x9_isMated_28 z a b n x st) (B01 st) := by
  intro z
  induction z with
  | zero => intro i x h1 h2 h3; omega
  | succ z ih =>
    intro i x hx hi hz
    have e : (x + 1).toInt = x.toInt + 1 := by rw [t_add (by show -2147483648 ≤ x.toInt + 1; omega) (by show x.toInt + 1 < 2147483648; omega)]; rfl
    rw [x9_isMated_28_s]
    generalize x + 1 = x' at e ⊢
    simp only [Ok_pif, Ok_some]
    rw [t_le]
    refine ⟨fun _ => ⟨rfl, Or.inl rfl⟩, fun c => ?_⟩
    have go := ih (i + 1) x' (by omega) (by omega) (by omega)
    have ex := i31 b1 b2 (show 0 ≤ x.toInt by omega) (by omega)
    have ea := i31 a1 a2 (show 0 ≤ x.toInt by omega) (by omega)
    refine Ok.bp (r_has b1 b2) (fun hh => ?_) (fun hh => ?_)
    · simp only [Ok_pif, Ok_some, Ok_nam, Ok_gd, t_in, ex, i31 b1 b2 h3 h4]
      refine ⟨fun h => absurd h (by decide), fun _ => ⟨by omega, by omega, fun _ => Ok.bp (r_has a1 a2) (fun hh => ?_) (fun hh => ?_), fun _ => go⟩⟩
      · simp only [Ok_pif, Ok_some, Ok_nam, Ok_gd, ea, i31 a1 a2 h3 h4]
        exact ⟨fun h => absurd h (by decide), fun _ => ⟨by omega, fun _ => ⟨rfl, Or.inr rfl⟩, fun _ => ⟨by omega, by omega, fun _ => go, fun _ => ⟨rfl, Or.inr rfl⟩⟩⟩⟩
      · simp only [Ok_pif, Ok_nam]
        exact ⟨fun _ => go, fun h => absurd trivial h⟩
    · simp only [Ok_pif, Ok_nam]
      exact ⟨fun _ => go, fun h => absurd trivial h⟩
theorem r_isMated {a b n : Int32} {st : RS} (a1 : 0 ≤ a.toInt) (a2 : a.toInt < 8) (b1 : 0 ≤ b.toInt) (b2 : b.toInt < 8) (h3 : 0 ≤ n.toInt) (h4 : n.toInt ≤ 30) : Ok (x9_isMated a b n st) (B01 st) := by
  unfold x9_isMated
  refine Ok.bp (r_has b1 b2) (fun hh => ?_) (fun hh => ?_)
  · simp only [Ok_pif, Ok_some, Ok_gd, t_in, i31 b1 b2 h3 h4]
    exact ⟨fun h => absurd h (by decide), fun _ => ⟨by omega, fun _ => ⟨rfl, Or.inl rfl⟩, fun _ => r_isMated28 st a b n a1 a2 b1 b2 h3 h4 fuel 1 1 rfl (by omega) (by unfold fuel; omega)⟩⟩
  · simp only [Ok_pif, Ok_some]
    exact ⟨fun _ => ⟨rfl, Or.inl rfl⟩, fun h => absurd trivial h⟩
theorem r_place {a b c d : Int32} {st : RS} (a1 : 0 ≤ a.toInt) (a2 : a.toInt < 8) (b1 : 0 ≤ b.toInt) (b2 : b.toInt < 8) (c1 : 0 ≤ c.toInt) (c2 : c.toInt < 8) (d1 : 0 ≤ d.toInt) (d2 : d.toInt < 2) : Ok (x9_place a b c d st) (fun q => q.2 = st ∧ q.1.toInt = ((a.toInt * 8 + b.toInt) * 8 + c.toInt) * 2 + d.toInt) := by
  unfold x9_place
  rw [Ok_some]
  refine ⟨rfl, ?_⟩
  have e1 : (a * 8).toInt = a.toInt * 8 := by rw [t_mul (by show -2147483648 ≤ a.toInt * 8; omega) (by show a.toInt * 8 < 2147483648; omega)]; rfl
  have e2 : (a * 8 + b).toInt = a.toInt * 8 + b.toInt := by rw [t_add (by omega) (by omega), e1]
  have e3 : ((a * 8 + b) * 8).toInt = (a.toInt * 8 + b.toInt) * 8 := by rw [t_mul (by rw [e2]; show -2147483648 ≤ (a.toInt * 8 + b.toInt) * 8; omega) (by rw [e2]; show (a.toInt * 8 + b.toInt) * 8 < 2147483648; omega), e2]; rfl
  have e4 : ((a * 8 + b) * 8 + c).toInt = (a.toInt * 8 + b.toInt) * 8 + c.toInt := by rw [t_add (by omega) (by omega), e3]
  have e5 : (((a * 8 + b) * 8 + c) * 2).toInt = ((a.toInt * 8 + b.toInt) * 8 + c.toInt) * 2 := by rw [t_mul (by rw [e4]; show -2147483648 ≤ ((a.toInt * 8 + b.toInt) * 8 + c.toInt) * 2; omega) (by rw [e4]; show ((a.toInt * 8 + b.toInt) * 8 + c.toInt) * 2 < 2147483648; omega), e4]; rfl
  show ((((a * 8 + b) * 8 + c) * 2) + d).toInt = _
  rw [t_add (by omega) (by omega), e5]
theorem r_withinOf {a b c n d : Int32} {st : RS} (hM : MkI st) (ha : mkN st a) (hb : mkN st b) (hc : mkN st c) (hn : hasN st a.toNatClampNeg n.toNatClampNeg) (h6 : srt st a.toNatClampNeg n.toNatClampNeg = 6) (hob : hasN st b.toNatClampNeg n.toNatClampNeg → srt st b.toNatClampNeg n.toNatClampNeg = 6) (hoc : hasN st c.toNatClampNeg n.toNatClampNeg → srt st c.toNatClampNeg n.toNatClampNeg = 6) (d1 : 0 ≤ d.toInt) (d2 : d.toInt < 2) : Ok (x9_withinOf a b c n d st) (fun q => q.2 = st) := by
  have hn1 := hn.i
  have a1 := ha.1
  have a2 := ha.2.1
  have b1 := hb.1
  have b2 := hb.2.1
  have c1 := hc.1
  have c2 := hc.2.1
  have ea := i31 a1 a2 (show 0 ≤ n.toInt by omega) hn1.2
  have eb := i31 b1 b2 (show 0 ≤ n.toInt by omega) hn1.2
  have ec := i31 c1 c2 (show 0 ≤ n.toInt by omega) hn1.2
  have na := i31n a1 a2 (show 0 ≤ n.toInt by omega) hn1.2
  have nb := i31n b1 b2 (show 0 ≤ n.toInt by omega) hn1.2
  have nc := i31n c1 c2 (show 0 ≤ n.toInt by omega) hn1.2
  have an : (a.toNatClampNeg : Int) = a.toInt := by rw [t_nat]; omega
  have bn : (b.toNatClampNeg : Int) = b.toInt := by rw [t_nat]; omega
  have cn : (c.toNatClampNeg : Int) = c.toInt := by rw [t_nat]; omega
  obtain ⟨i1, i2, -⟩ := (hM a.toNatClampNeg n.toNatClampNeg (by omega) ha.2.2 hn).2.1 (srt_6 h6)
  have ib : hasN st b.toNatClampNeg n.toNatClampNeg → 0 ≤ (gF st 3 (31 * b.toNatClampNeg + n.toNatClampNeg)).toInt ∧ (gF st 3 (31 * b.toNatClampNeg + n.toNatClampNeg)).toInt < 8 := fun h => by
    obtain ⟨j1, j2, -⟩ := (hM b.toNatClampNeg n.toNatClampNeg (by omega) hb.2.2 h).2.1 (srt_6 (hob h))
    exact ⟨j1, by omega⟩
  have ic : hasN st c.toNatClampNeg n.toNatClampNeg → 0 ≤ (gF st 3 (31 * c.toNatClampNeg + n.toNatClampNeg)).toInt ∧ (gF st 3 (31 * c.toNatClampNeg + n.toNatClampNeg)).toInt < 8 := fun h => by
    obtain ⟨j1, j2, -⟩ := (hM c.toNatClampNeg n.toNatClampNeg (by omega) hc.2.2 h).2.1 (srt_6 (hoc h))
    exact ⟨j1, by omega⟩
  unfold x9_withinOf x9_withinOf_87
  have fin : ∀ x y w : Int32, 0 ≤ x.toInt → x.toInt < 8 → 0 ≤ y.toInt → y.toInt < 8 → 0 ≤ w.toInt → w.toInt < 2 → Ok (bnd (x9_place (gF st 3 (31 * a.toNatClampNeg + n.toNatClampNeg)) x y w st) (fun r t => gd (0 ≤ r.toInt ∧ r.toInt < (1024 : Nat)) (some (gF t 57 r.toNatClampNeg, t)))) (fun q => q.2 = st) := fun x y w x1 x2 y1 y2 w1 w2 => Ok.call (r_place i1 (by omega) x1 x2 y1 y2 w1 w2) (fun r t ht => by
    obtain ⟨t1, t2⟩ := ht
    have t1 : t = st := t1
    have t2 : r.toInt = _ := t2
    subst t1
    simp only [Ok_gd, Ok_some]
    exact ⟨by omega, trivial⟩)
  refine Ok.bp (r_has b1 b2) (fun hb' => ?_) (fun hb' => ?_)
  · refine Ok.bp (r_has c1 c2) (fun hc' => ?_) (fun hc' => ?_)
    · simp only [Ok_gd, Ok_nam, Ok_pif, Ok_some, t_in, ea, eb, ec, na, nb, nc]
      exact ⟨by omega, by omega, by omega, fun h => absurd h (by decide), fun _ => ⟨fun h => absurd h (by decide), fun _ => fin _ _ _ (ib hb').1 (ib hb').2 (ic hc').1 (ic hc').2 d1 d2⟩⟩
    · simp only [Ok_gd, Ok_nam, Ok_pif, Ok_some, t_in, ea, eb, ec, na, nb, nc]
      exact ⟨by omega, by omega, by omega, fun h => absurd h (by decide), fun _ => ⟨fun _ => ⟨fun _ => ⟨fun h => absurd h (by decide), fun _ => fin _ _ _ (ib hb').1 (ib hb').2 (ib hb').1 (ib hb').2 (by decide) (by decide)⟩, fun h => absurd trivial h⟩, fun h => absurd trivial h⟩⟩
  · refine Ok.bp (r_has c1 c2) (fun hc' => ?_) (fun hc' => ?_)
    · simp only [Ok_gd, Ok_nam, Ok_pif, Ok_some, t_in, ea, eb, ec, na, nb, nc]
      exact ⟨by omega, by omega, by omega, fun _ => ⟨fun h => absurd h (by decide), fun _ => fin _ _ _ (ic hc').1 (ic hc').2 (ic hc').1 (ic hc').2 d1 d2⟩, fun h => absurd trivial h⟩
    · simp only [Ok_gd, Ok_nam, Ok_pif, Ok_some, t_in, ea, eb, ec, na, nb, nc]
      exact ⟨by omega, by omega, by omega, fun _ => ⟨fun _ => ⟨fun _ => trivial, fun h => absurd trivial h⟩, fun h => absurd trivial h⟩, fun h => absurd trivial h⟩
theorem Ok.b01 {β : Type} {st : RS} {x : Option (Int32 × RS)} {k : Int32 → RS → Option β} {P : β → Prop} (h : Ok x (B01 st)) (h0 : Ok (k 0 st) P) (h1 : Ok (k 1 st) P) : Ok (bnd x k) P := Ok.call h (fun r t ht => by
  obtain ⟨t1, t2⟩ := ht
  have t1 : t = st := t1
  subst t1
  rcases t2 with t2 | t2
  · have t2 : r = 0 := t2
    rw [t2]; exact h0
  · have t2 : r = 1 := t2
    rw [t2]; exact h1)
theorem r_whyOf {a b c n d : Int32} {st : RS} (hM : MkI st) (ha : mkN st a) (hb : mkN st b) (hc : mkN st c) (hn : hasN st a.toNatClampNeg n.toNatClampNeg) (d1 : 0 ≤ d.toInt) (d2 : d.toInt < 2) : Ok (x9_whyOf a b c n d st) (fun q => q.2 = st) := by
  have hn1 := hn.i
  have a1 := ha.1
  have a2 := ha.2.1
  have b1 := hb.1
  have b2 := hb.2.1
  have c1 := hc.1
  have c2 := hc.2.1
  have n0 : 0 ≤ n.toInt := by omega
  unfold x9_whyOf
  refine Ok.bp (r_isOther a1 a2 b1 b2 n0 hn1.2) (fun _ => ?_) (fun o1 => ?_)
  · simp only [Ok_pif, Ok_some]; exact ⟨fun h => absurd h (by decide), fun _ => trivial⟩
  simp only [Ok_pif, Ok_some]
  refine ⟨fun _ => Ok.bp (r_isOther a1 a2 c1 c2 n0 hn1.2) (fun _ => ?_) (fun o2 => ?_), fun h => absurd trivial h⟩
  · simp only [Ok_pif, Ok_some]; exact ⟨fun h => absurd h (by decide), fun _ => trivial⟩
  simp only [Ok_pif, Ok_some]
  refine ⟨fun _ => Ok.bp (r_isNarrower a1 a2 b1 b2 n0 hn1.2) (fun _ => ?_) (fun _ => ?_), fun h => absurd trivial h⟩
  · simp only [Ok_pif, Ok_some]; exact ⟨fun h => absurd h (by decide), fun _ => trivial⟩
  simp only [Ok_pif, Ok_some]
  refine ⟨fun _ => Ok.bp (r_isNarrower a1 a2 c1 c2 n0 hn1.2) (fun _ => ?_) (fun _ => ?_), fun h => absurd trivial h⟩
  · simp only [Ok_pif, Ok_some]; exact ⟨fun h => absurd h (by decide), fun _ => trivial⟩
  have go : Ok (x9_whyOf_66 a b c n d st) (fun q => q.2 = st) := by
    unfold x9_whyOf_66
    refine Ok.b01 (r_isMated a1 a2 b1 b2 n0 hn1.2) ?_ ?_
    · simp only [Ok_pif, Ok_some]
      refine ⟨fun _ => Ok.b01 (r_isMated a1 a2 c1 c2 n0 hn1.2) ?_ ?_, fun h => absurd trivial h⟩
      · simp only [Ok_pif, Ok_some]
        refine ⟨fun _ => Ok.call (r_sortOf a1 a2 n0 hn1.2) (fun q t hq => ?_), fun h => absurd trivial h⟩
        obtain ⟨q1, q2⟩ := hq
        have q1 : t = st := q1
        have q2 : q = _ := q2
        subst q1
        rw [q2]
        simp only [Ok_pif, Ok_some]
        refine ⟨fun h6 => ?_, fun _ => trivial⟩
        have ob : hasN t b.toNatClampNeg n.toNatClampNeg → srt t b.toNatClampNeg n.toNatClampNeg = 6 := fun h => (Classical.byContradiction (fun q => o1 ⟨h, fun e => q (e.symm.trans h6)⟩))
        have oc : hasN t c.toNatClampNeg n.toNatClampNeg → srt t c.toNatClampNeg n.toNatClampNeg = 6 := fun h => (Classical.byContradiction (fun q => o2 ⟨h, fun e => q (e.symm.trans h6)⟩))
        refine Ok.call (r_withinOf hM ha hb hc hn h6 ob oc d1 d2) (fun x y hy => ?_)
        have hy : y = t := hy
        subst hy
        simp only [Ok_pif, Ok_some]
        exact ⟨fun _ => trivial, fun _ => trivial⟩
      · simp only [Ok_pif, Ok_some]
        exact ⟨fun h => absurd h (by decide), fun _ => trivial⟩
    · simp only [Ok_pif, Ok_some]
      exact ⟨fun h => absurd h (by decide), fun _ => trivial⟩
  simp only [Ok_pif, Ok_some]
  refine ⟨fun _ => ⟨fun _ => Ok.b01 (r_differs hM ha hc hn) ?_ ?_, fun _ => go⟩, fun h => absurd trivial h⟩
  · simp only [Ok_pif, Ok_some]
    exact ⟨fun _ => go, fun h => absurd trivial h⟩
  · simp only [Ok_pif, Ok_some]
    exact ⟨fun h => absurd h (by decide), fun _ => trivial⟩
