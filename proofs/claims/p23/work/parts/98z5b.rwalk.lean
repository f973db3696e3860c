/-! walks: the reference's table is the spec -/
theorem BP.of {c : Prop} {st : RS} {x : Int32} (h : x = 0 ∨ x = 1) (hi : x = 1 ↔ c) : BP c st (x, st) := by
  rcases h with h | h
  · subst h
    exact BP.n (fun q => absurd (hi.mpr q) (by decide))
  · subst h
    exact BP.y (hi.mp rfl)
theorem r_dif64 (st : RS) (a n f g : Int32) (F G : Nat) (a1 : 0 ≤ a.toInt) (a2 : a.toInt < 8) (h3 : 0 ≤ n.toInt) (h4 : n.toInt ≤ 30) (hf : f.toInt = F) (hF : F < 248) (hg : g.toInt = G) (hG : G < 248) (hp : srt st a.toNatClampNeg n.toNatClampNeg = 5 → (gL st 6 F).toInt ≤ 12) : ∀ (z i : Nat) (l6 x : Int32), x.toInt = i → i ≤ 12 → 12 - i < z → (l6 = 0 ∨ l6 = 1) → (i = 0 ∨ srt st a.toNatClampNeg n.toNatClampNeg = 5 ∧ (i : Int) ≤ (gL st 6 F).toInt) → (l6 = 1 ↔ ∃ k, k < i ∧ gF st 7 (12 * F + k) ≠ gF st 7 (12 * G + k)) → Ok (x9_differs_64 z a n f g l6 x st) (BP (srt st a.toNatClampNeg n.toNatClampNeg = 5 ∧ ∃ k : Nat, (k : Int) < (gL st 6 F).toInt ∧ gF st 7 (12 * F + k) ≠ gF st 7 (12 * G + k)) st) := by
  intro z
  induction z with
  | zero => intro i l6 x h1 h2 h3; omega
  | succ z ih =>
    intro i l6 x hx hi hz h6 hs hD
    have e := inc (x := x) (by omega) (by omega)
    have fn : f.toNatClampNeg = F := by rw [t_nat]; omega
    have nar : narrow .boolean (.int l6) = .int l6 := by rcases h6 with h | h <;> rw [h] <;> decide
    have m12 : ∀ (y : Int32) (Y : Nat), y.toInt = Y → Y < 248 → (12 * y + x).toInt = (12 * Y + i : Nat) := fun y Y y1 y2 => by
      have em : (12 * y).toInt = 12 * y.toInt := by
        rw [t_mul (by show -2147483648 ≤ 12 * y.toInt; omega) (by show 12 * y.toInt < 2147483648; omega)]
        rfl
      rw [t_add (by omega) (by omega), em]
      omega
    have ef := m12 f F hf hF
    have eg := m12 g G hg hG
    have efn : (12 * f + x).toNatClampNeg = 12 * F + i := by rw [t_nat]; omega
    have egn : (12 * g + x).toNatClampNeg = 12 * G + i := by rw [t_nat]; omega
    rw [x9_differs_64_s]
    unfold x9_differs_122 x9_differs_127
    simp only [Ok_gd, Ok_pif, Ok_some, lg_cmp_ge, t_in, Ok_nam, fn, ef, eg, efn, egn]
    generalize x + 1 = x' at e ⊢
    rw [j_le, j_of, hx]
    refine ⟨by omega, fun c => ⟨nar, BP.of h6 (hD.trans ?_)⟩, fun c => Ok.call (r_sortOf a1 a2 h3 h4) (fun q t hq => ?_)⟩
    · constructor
      · rintro ⟨k, k1, k2⟩
        rcases hs with hs | hs
        · omega
        · exact ⟨hs.1, k, by omega, k2⟩
      · rintro ⟨s5, k, k1, k2⟩
        exact ⟨k, by omega, k2⟩
    obtain ⟨q1, q2⟩ := hq
    have q1 : t = st := q1
    have q2 : q = _ := q2
    subst q1
    rw [q2]
    simp only [Ok_gd, Ok_pif, Ok_some, Ok_nam]
    refine ⟨fun s5 => ?_, fun s5 => ⟨nar, BP.of h6 (hD.trans ?_)⟩⟩
    · have hp5 := hp s5
      have hs' : i + 1 = 0 ∨ srt t a.toNatClampNeg n.toNatClampNeg = 5 ∧ ((i + 1 : Nat) : Int) ≤ (gL t 6 F).toInt := Or.inr ⟨s5, by omega⟩
      refine ⟨fun z0 => ⟨by omega, by omega, fun ce => ih (i + 1) 0 x' (by omega) (by omega) (by omega) (Or.inl rfl) hs' ?_, fun ce => ih (i + 1) 1 x' (by omega) (by omega) (by omega) (Or.inr rfl) hs' ⟨fun _ => ⟨i, by omega, ce⟩, fun _ => rfl⟩⟩, fun z0 => ih (i + 1) 1 x' (by omega) (by omega) (by omega) (Or.inr rfl) hs' ?_⟩
      · refine ⟨fun h => absurd h (by decide), fun h => ?_⟩
        obtain ⟨k, k1, k2⟩ := h
        by_cases ck : k = i
        · rw [ck] at k2; exact absurd ce k2
        · have := hD.mpr ⟨k, by omega, k2⟩
          rw [z0] at this
          exact absurd this (by decide)
      · refine ⟨fun _ => ?_, fun _ => rfl⟩
        obtain ⟨k, k1, k2⟩ := hD.mp (h6.resolve_left z0)
        exact ⟨k, by omega, k2⟩
    · constructor
      · rintro ⟨k, k1, k2⟩
        rcases hs with hs | hs
        · omega
        · exact absurd hs.1 s5
      · rintro ⟨w, -⟩
        exact absurd w s5
theorem r_dif {a c n : Int32} {st : RS} (hM : MkI st) (ha : mkN st a) (hc : mkN st c) (hn : hasN st a.toNatClampNeg n.toNatClampNeg) : Ok (x9_differs a c n st) (BP (wDif st a.toNatClampNeg c.toNatClampNeg n.toNatClampNeg) st) := by
  have hn1 := hn.i
  unfold x9_differs wDif
  refine Ok.bp (r_has hc.1 hc.2.1) (fun hh => ?_) (fun hh => ?_)
  · simp only [Ok_pif, Ok_some]
    refine ⟨fun h => absurd h (by decide), fun _ => Ok.call (r_sortOf ha.1 ha.2.1 (by omega) hn1.2) (fun q t hq => ?_)⟩
    obtain ⟨q1, q2⟩ := hq
    have q1 : t = st := q1
    have q2 : q = _ := q2
    subst q1
    have a1 := ha.1
    have a2 := ha.2.1
    have c1 := hc.1
    have c2 := hc.2.1
    have e1 := i31 a1 a2 (show 0 ≤ n.toInt by omega) hn1.2
    have e2 := i31 c1 c2 (show 0 ≤ n.toInt by omega) hn1.2
    have n1 := i31n a1 a2 (show 0 ≤ n.toInt by omega) hn1.2
    have n2 := i31n c1 c2 (show 0 ≤ n.toInt by omega) hn1.2
    have an : (a.toNatClampNeg : Int) = a.toInt := by rw [t_nat]; omega
    have cn : (c.toNatClampNeg : Int) = c.toInt := by rw [t_nat]; omega
    have nn : (n.toNatClampNeg : Int) = n.toInt := by rw [t_nat]; omega
    simp only [Ok_pif, Ok_some, Ok_nam, Ok_gd, t_in, e1, e2, n1, n2, q2, lg_cmp_eq]
    refine ⟨fun s6 => BP.n (fun w => w.2.1 s6), fun s6 => ⟨by omega, by omega, fun ce => ?_, fun ce => BP.y ⟨hh, s6, Or.inl ce⟩⟩⟩
    refine (r_dif64 t a n _ _ (31 * a.toNatClampNeg + n.toNatClampNeg) (31 * c.toNatClampNeg + n.toNatClampNeg) a1 a2 (by omega) hn1.2 (by omega) (by omega) (by omega) (by omega) (fun h5 => ?_) fuel 0 0 0 rfl (by omega) (by unfold fuel; omega) (Or.inl rfl) (Or.inl rfl) ⟨fun h => absurd h (by decide), fun h => by obtain ⟨k, k1, -⟩ := h; omega⟩).mono (fun p hp => ?_)
    · exact ((hM a.toNatClampNeg n.toNatClampNeg (by omega) ha.2.2 hn).2.2 (srt_5 h5)).2
    · refine ⟨hp.1, ?_⟩
      rcases hp.2 with ⟨p1, p2⟩ | ⟨p1, p2⟩
      · exact Or.inl ⟨p1, hh, s6, Or.inr p2⟩
      · exact Or.inr ⟨p1, fun w => w.2.2.elim (fun v => v ce) p2⟩
  · simp only [Ok_pif, Ok_some]
    exact ⟨fun _ => BP.n (fun w => hh w.1), fun h => absurd trivial h⟩
theorem r_mat28 (st : RS) (a b n : Int32) (a1 : 0 ≤ a.toInt) (a2 : a.toInt < 8) (b1 : 0 ≤ b.toInt) (b2 : b.toInt < 8) (h3 : 0 ≤ n.toInt) (h4 : n.toInt ≤ 30) : ∀ (z i : Nat) (x : Int32), x.toInt = i → 1 ≤ i → i ≤ 31 → 31 - i < z → (∀ k, 1 ≤ k → k < i → ¬ (hasN st b.toNatClampNeg k ∧ gF st 2 (31 * b.toNatClampNeg + k) = gF st 2 (31 * b.toNatClampNeg + n.toNatClampNeg) ∧ hasN st a.toNatClampNeg k ∧ (gF st 2 (31 * a.toNatClampNeg + k) = 0 ∨ gF st 2 (31 * a.toNatClampNeg + k) ≠ gF st 2 (31 * a.toNatClampNeg + n.toNatClampNeg)))) → Ok (x9_isMated_28 z a b n x st) (BP (∃ k, 1 ≤ k ∧ k < n.toNatClampNeg ∧ hasN st b.toNatClampNeg k ∧ gF st 2 (31 * b.toNatClampNeg + k) = gF st 2 (31 * b.toNatClampNeg + n.toNatClampNeg) ∧ hasN st a.toNatClampNeg k ∧ (gF st 2 (31 * a.toNatClampNeg + k) = 0 ∨ gF st 2 (31 * a.toNatClampNeg + k) ≠ gF st 2 (31 * a.toNatClampNeg + n.toNatClampNeg))) st) := by
  intro z
  induction z with
  | zero => intro i x h1 h2 h3; omega
  | succ z ih =>
    intro i x hx hi1 hi hz hA
    have e := inc (x := x) (by omega) (by omega)
    have xn : x.toNatClampNeg = i := by rw [t_nat]; omega
    have nn : (n.toNatClampNeg : Int) = n.toInt := by rw [t_nat]; omega
    rw [x9_isMated_28_s]
    generalize x + 1 = x' at e ⊢
    simp only [Ok_pif, Ok_some]
    rw [t_le]
    refine ⟨fun c => BP.n (fun w => ?_), fun c => ?_⟩
    · obtain ⟨k, k1, k2, k3⟩ := w
      exact hA k k1 (by omega) k3
    have go : ¬ (hasN st b.toNatClampNeg i ∧ gF st 2 (31 * b.toNatClampNeg + i) = gF st 2 (31 * b.toNatClampNeg + n.toNatClampNeg) ∧ hasN st a.toNatClampNeg i ∧ (gF st 2 (31 * a.toNatClampNeg + i) = 0 ∨ gF st 2 (31 * a.toNatClampNeg + i) ≠ gF st 2 (31 * a.toNatClampNeg + n.toNatClampNeg))) → _ := fun hno => ih (i + 1) x' (by omega) (by omega) (by omega) (by omega) (fun k k1 k2 => by
      by_cases ck : k = i
      · rw [ck]; exact hno
      · exact hA k k1 (by omega))
    have ex := i31 b1 b2 (show 0 ≤ x.toInt by omega) (by omega)
    have ea := i31 a1 a2 (show 0 ≤ x.toInt by omega) (by omega)
    have exn := i31n b1 b2 (show 0 ≤ x.toInt by omega) (by omega)
    have ean := i31n a1 a2 (show 0 ≤ x.toInt by omega) (by omega)
    rw [xn] at exn ean
    have hb := r_has (m := b) (n := x) (st := st) b1 b2
    have ha := r_has (m := a) (n := x) (st := st) a1 a2
    rw [xn] at hb ha
    refine Ok.bp hb (fun hh => ?_) (fun hh => ?_)
    · simp only [Ok_pif, Ok_some, Ok_nam, Ok_gd, t_in, ex, i31 b1 b2 h3 h4, exn, i31n b1 b2 h3 h4]
      refine ⟨fun h => absurd h (by decide), fun _ => ⟨by omega, by omega, fun cg => Ok.bp ha (fun hh2 => ?_) (fun hh2 => ?_), fun cg => go (fun w => cg w.2.1)⟩⟩
      · simp only [Ok_pif, Ok_some, Ok_nam, Ok_gd, t_in, ea, i31 a1 a2 h3 h4, ean, i31n a1 a2 h3 h4]
        exact ⟨fun h => absurd h (by decide), fun _ => ⟨by omega, fun c0 => BP.y ⟨i, hi1, by omega, hh, cg, hh2, Or.inl c0⟩, fun c0 => ⟨by omega, by omega, fun ce => go (fun w => w.2.2.2.elim c0 (fun v => v ce)), fun ce => BP.y ⟨i, hi1, by omega, hh, cg, hh2, Or.inr ce⟩⟩⟩⟩
      · simp only [Ok_pif, Ok_nam]
        exact ⟨fun _ => go (fun w => hh2 w.2.2.1), fun h => absurd trivial h⟩
    · simp only [Ok_pif, Ok_nam]
      exact ⟨fun _ => go (fun w => hh w.1), fun h => absurd trivial h⟩
theorem r_mat {a b n : Int32} {st : RS} (a1 : 0 ≤ a.toInt) (a2 : a.toInt < 8) (b1 : 0 ≤ b.toInt) (b2 : b.toInt < 8) (h3 : 0 ≤ n.toInt) (h4 : n.toInt ≤ 30) : Ok (x9_isMated a b n st) (BP (wMat st a.toNatClampNeg b.toNatClampNeg n.toNatClampNeg) st) := by
  unfold x9_isMated wMat
  refine Ok.bp (r_has b1 b2) (fun hh => ?_) (fun hh => ?_)
  · simp only [Ok_pif, Ok_some, Ok_gd, t_in, i31 b1 b2 h3 h4, i31n b1 b2 h3 h4]
    refine ⟨fun h => absurd h (by decide), fun _ => ⟨by omega, fun c0 => BP.n (fun w => w.2.1 c0), fun c0 => ?_⟩⟩
    refine (r_mat28 st a b n a1 a2 b1 b2 h3 h4 fuel 1 1 rfl (by omega) (by omega) (by unfold fuel; omega) (fun k k1 k2 => by omega)).mono (fun p hp => ⟨hp.1, ?_⟩)
    rcases hp.2 with ⟨p1, p2⟩ | ⟨p1, p2⟩
    · exact Or.inl ⟨p1, hh, c0, p2⟩
    · exact Or.inr ⟨p1, fun w => p2 w.2.2⟩
  · simp only [Ok_pif, Ok_some]
    exact ⟨fun _ => BP.n (fun w => hh w.1), fun h => absurd trivial h⟩
