/-! walks: the reference's table -/
/-- the makes' rows are the same -/
def RwE (r t : RS) : Prop := gF t 0 = gF r 0 ∧ gF t 1 = gF r 1 ∧ gF t 2 = gF r 2 ∧ gF t 3 = gF r 3 ∧ gF t 7 = gF r 7 ∧ gF t 8 = gF r 8 ∧ gL t 6 = gL r 6
theorem rwe_of {st t : RS} (h : Fr [] [57, 58] st t) : RwE st t := ⟨(h.2 0 (by decide)).1, (h.2 1 (by decide)).1, (h.2 2 (by decide)).1, (h.2 3 (by decide)).1, (h.2 7 (by decide)).1, (h.2 8 (by decide)).1, (h.2 6 (by decide)).2⟩
theorem rwe_has {r t : RS} (h : RwE r t) : hasN t = hasN r := by
  obtain ⟨h0, h1, h2, h3, h7, h8, h6⟩ := h
  funext m n
  unfold hasN
  rw [h8, h1]
theorem rwe_srt {r t : RS} (h : RwE r t) : srt t = srt r := by
  obtain ⟨h0, h1, h2, h3, h7, h8, h6⟩ := h
  funext m n
  unfold srt
  rw [h1]
theorem rwe_why {r t : RS} (h : RwE r t) : wWhy t = wWhy r := by
  have e1 := rwe_has h
  have e2 := rwe_srt h
  obtain ⟨h0, h1, h2, h3, h7, h8, h6⟩ := h
  funext W a b c n pl
  unfold wWhy wOth wNar wDif wMat wIn inM
  rw [e1, e2, h1, h2, h3, h6, h7]
theorem rwe_brk {r t : RS} (h : RwE r t) : wBrk t = wBrk r := by
  have e1 := rwe_has h
  have e2 := rwe_why h
  funext z
  induction z with
  | zero => rfl
  | succ z ih =>
    funext a b c pl
    show ((tld t a ∧ tld t b ∧ tld t c) ∧ ∃ n, 1 ≤ n ∧ n ≤ 30 ∧ hasN t a n ∧ wWhy t (wBrk t z) a b c n pl ≠ 0) = ((tld r a ∧ tld r b ∧ tld r c) ∧ ∃ n, 1 ≤ n ∧ n ≤ 30 ∧ hasN r a n ∧ wWhy r (wBrk r z) a b c n pl ≠ 0)
    unfold tld
    rw [e1, e2, ih, h.1]
theorem rwe_mki {r t : RS} (h : RwE r t) (hM : MkI t) : MkI r := hM.fr h.1.symm h.2.1.symm h.2.2.2.1.symm h.2.2.2.2.2.1.symm h.2.2.2.2.2.2.symm
def plA (a b c d : Nat) : Nat := ((a * 8 + b) * 8 + c) * 2 + d
/-- the table is right up to N -/
def TbE (r : RS) (N : Nat) (st : RS) : Prop := ∀ a b c d, a < 8 → b < 8 → c < 8 → d < 2 → plA a b c d < N → (gF st 57 (plA a b c d)).toInt = whyE r a b c (d = 1) ∧ (gF st 58 (plA a b c d)).toInt = byE r a b c (d = 1)
theorem plA_inj {a b c d a' b' c' d' : Nat} (h1 : b < 8) (h2 : c < 8) (h3 : d < 2) (k1 : b' < 8) (k2 : c' < 8) (k3 : d' < 2) (h : plA a b c d = plA a' b' c' d') : a = a' ∧ b = b' ∧ c = c' ∧ d = d' := by
  unfold plA at h
  omega
theorem r_within2 {a b c n d : Int32} {r st : RS} {N : Nat} (hR : RwE r st) (hM : MkI st) (hT : TbE r N st) (hN : 128 * a.toNatClampNeg ≤ N) (ha : mkN st a) (hb : mkN st b) (hc : mkN st c) (hn : hasN st a.toNatClampNeg n.toNatClampNeg) (h6 : srt st a.toNatClampNeg n.toNatClampNeg = 6) (hob : hasN st b.toNatClampNeg n.toNatClampNeg → srt st b.toNatClampNeg n.toNatClampNeg = 6) (hoc : hasN st c.toNatClampNeg n.toNatClampNeg → srt st c.toNatClampNeg n.toNatClampNeg = 6) (d1 : 0 ≤ d.toInt) (d2 : d.toInt < 2) : Ok (x9_withinOf a b c n d st) (fun q => q.2 = st ∧ (0 < q.1.toInt ↔ wIn st (wBrk st a.toNatClampNeg) a.toNatClampNeg b.toNatClampNeg c.toNatClampNeg n.toNatClampNeg (d.toInt = 1))) := by
  have hn1 := hn.i
  have a1 := ha.1
  have a2 := ha.2.1
  have b1 := hb.1
  have b2 := hb.2.1
  have c1 := hc.1
  have c2 := hc.2.1
  have ea := i31 a1 a2 (show 0 ≤ n.toInt by omega) hn1.2
  have eb := i31 b1 b2 (show 0 ≤ n.toInt by omega) hn1.2
  have ec := i31 c1 c2 (show 0 ≤ n.toInt by omega) hn1.2
  have na := i31n a1 a2 (show 0 ≤ n.toInt by omega) hn1.2
  have nb := i31n b1 b2 (show 0 ≤ n.toInt by omega) hn1.2
  have nc := i31n c1 c2 (show 0 ≤ n.toInt by omega) hn1.2
  have an : (a.toNatClampNeg : Int) = a.toInt := by rw [t_nat]; omega
  have bn : (b.toNatClampNeg : Int) = b.toInt := by rw [t_nat]; omega
  have cn : (c.toNatClampNeg : Int) = c.toInt := by rw [t_nat]; omega
  obtain ⟨i1, i2, -⟩ := (hM a.toNatClampNeg n.toNatClampNeg (by omega) ha.2.2 hn).2.1 (srt_6 h6)
  have ib : hasN st b.toNatClampNeg n.toNatClampNeg → 0 ≤ (gF st 3 (31 * b.toNatClampNeg + n.toNatClampNeg)).toInt ∧ (gF st 3 (31 * b.toNatClampNeg + n.toNatClampNeg)).toInt < 8 := fun h => by
    obtain ⟨j1, j2, -⟩ := (hM b.toNatClampNeg n.toNatClampNeg (by omega) hb.2.2 h).2.1 (srt_6 (hob h))
    exact ⟨j1, by omega⟩
  have ic : hasN st c.toNatClampNeg n.toNatClampNeg → 0 ≤ (gF st 3 (31 * c.toNatClampNeg + n.toNatClampNeg)).toInt ∧ (gF st 3 (31 * c.toNatClampNeg + n.toNatClampNeg)).toInt < 8 := fun h => by
    obtain ⟨j1, j2, -⟩ := (hM c.toNatClampNeg n.toNatClampNeg (by omega) hc.2.2 h).2.1 (srt_6 (hoc h))
    exact ⟨j1, by omega⟩
  have hlt : inM st a.toNatClampNeg n.toNatClampNeg < a.toNatClampNeg := by
    have e : inM st a.toNatClampNeg n.toNatClampNeg = (gF st 3 (31 * a.toNatClampNeg + n.toNatClampNeg)).toInt.toNat := rfl
    rw [e]; omega
  have eB := rwe_brk hR
  have fin : ∀ x y w : Int32, 0 ≤ x.toInt → x.toInt < 8 → 0 ≤ y.toInt → y.toInt < 8 → 0 ≤ w.toInt → w.toInt < 2 → Ok (bnd (x9_place (gF st 3 (31 * a.toNatClampNeg + n.toNatClampNeg)) x y w st) (fun r t => gd (0 ≤ r.toInt ∧ r.toInt < (1024 : Nat)) (some (gF t 57 r.toNatClampNeg, t)))) (fun q => q.2 = st ∧ (0 < q.1.toInt ↔ wBrk st a.toNatClampNeg (inM st a.toNatClampNeg n.toNatClampNeg) x.toNatClampNeg y.toNatClampNeg (w.toInt = 1))) := fun x y w x1 x2 y1 y2 w1 w2 => Ok.call (r_place i1 (by omega) x1 x2 y1 y2 w1 w2) (fun q t ht => by
    obtain ⟨t1, t2⟩ := ht
    have t1 : t = st := t1
    have t2 : q.toInt = _ := t2
    subst t1
    simp only [Ok_gd, Ok_some]
    refine ⟨by omega, trivial, ?_⟩
    have em : inM t a.toNatClampNeg n.toNatClampNeg = (gF t 3 (31 * a.toNatClampNeg + n.toNatClampNeg)).toInt.toNat := rfl
    have qn' : q.toNatClampNeg = plA (inM t a.toNatClampNeg n.toNatClampNeg) x.toNatClampNeg y.toNatClampNeg w.toNatClampNeg := by
      have e1 : (q.toNatClampNeg : Int) = q.toInt := by rw [t_nat]; omega
      have e2 : (x.toNatClampNeg : Int) = x.toInt := by rw [t_nat]; omega
      have e3 : (y.toNatClampNeg : Int) = y.toInt := by rw [t_nat]; omega
      have e4 : (w.toNatClampNeg : Int) = w.toInt := by rw [t_nat]; omega
      have e5 : (inM t a.toNatClampNeg n.toNatClampNeg : Int) = (gF t 3 (31 * a.toNatClampNeg + n.toNatClampNeg)).toInt := by rw [em]; omega
      unfold plA
      omega
    have hx8 : x.toNatClampNeg < 8 := by rw [t_nat]; omega
    have hy8 : y.toNatClampNeg < 8 := by rw [t_nat]; omega
    have hw2 : w.toNatClampNeg < 2 := by rw [t_nat]; omega
    have hw : (w.toNatClampNeg = 1) = (w.toInt = 1) := propext (by rw [t_nat]; omega)
    have hent := (hT _ _ _ _ (by omega : inM t a.toNatClampNeg n.toNatClampNeg < 8) hx8 hy8 hw2 (by unfold plA; omega)).1
    rw [qn', hent, hw, eB]
    have hst := wBrk_st (r := r) (rwe_mki hR hM) (inM t a.toNatClampNeg n.toNatClampNeg) a.toNatClampNeg x.toNatClampNeg y.toNatClampNeg (w.toInt = 1) hlt
    rw [hst, ← whyE_brk]
    omega)
  unfold x9_withinOf x9_withinOf_87 wIn
  refine Ok.bp (r_has b1 b2) (fun hb' => ?_) (fun hb' => ?_)
  · refine Ok.bp (r_has c1 c2) (fun hc' => ?_) (fun hc' => ?_)
    · simp only [Ok_gd, Ok_nam, Ok_pif, Ok_some, t_in, ea, eb, ec, na, nb, nc]
      refine ⟨by omega, by omega, by omega, fun h => absurd h (by decide), fun _ => ⟨fun h => absurd h (by decide), fun _ => (fin _ _ _ (ib hb').1 (ib hb').2 (ic hc').1 (ic hc').2 d1 d2).mono (fun q hq => ⟨hq.1, hq.2.trans ⟨fun w => Or.inl ⟨hc', hb', w⟩, fun w => ?_⟩⟩)⟩⟩
      rcases w with w | w | w
      · exact w.2.2
      · exact absurd hb' w.2.1
      · exact absurd hc' w.1
    · simp only [Ok_gd, Ok_nam, Ok_pif, Ok_some, t_in, ea, eb, ec, na, nb, nc]
      refine ⟨by omega, by omega, by omega, fun h => absurd h (by decide), fun _ => ⟨fun _ => ⟨fun _ => ⟨fun h => absurd h (by decide), fun _ => (fin _ _ 1 (ib hb').1 (ib hb').2 (ib hb').1 (ib hb').2 (by decide) (by decide)).mono (fun q hq => ⟨hq.1, hq.2.trans ?_⟩)⟩, fun h => absurd trivial h⟩, fun h => absurd trivial h⟩⟩
      have e1 : ((1 : Int32).toInt = 1) = True := propext ⟨fun _ => trivial, fun _ => rfl⟩
      rw [e1]
      refine ⟨fun w => Or.inr (Or.inr ⟨hc', hb', w⟩), fun w => ?_⟩
      rcases w with w | w | w
      · exact absurd w.1 hc'
      · exact absurd w.1 hc'
      · exact w.2.2
  · refine Ok.bp (r_has c1 c2) (fun hc' => ?_) (fun hc' => ?_)
    · simp only [Ok_gd, Ok_nam, Ok_pif, Ok_some, t_in, ea, eb, ec, na, nb, nc]
      refine ⟨by omega, by omega, by omega, fun _ => ⟨fun h => absurd h (by decide), fun _ => (fin _ _ _ (ic hc').1 (ic hc').2 (ic hc').1 (ic hc').2 d1 d2).mono (fun q hq => ⟨hq.1, hq.2.trans ⟨fun w => Or.inr (Or.inl ⟨hc', hb', w⟩), fun w => ?_⟩⟩)⟩, fun h => absurd trivial h⟩
      rcases w with w | w | w
      · exact absurd w.2.1 hb'
      · exact w.2.2
      · exact absurd w.2.1 hb'
    · simp only [Ok_gd, Ok_nam, Ok_pif, Ok_some, t_in, ea, eb, ec, na, nb, nc]
      refine ⟨by omega, by omega, by omega, fun _ => ⟨fun _ => ⟨fun _ => ⟨trivial, ⟨fun w => absurd w (by decide), fun w => ?_⟩⟩, fun h => absurd trivial h⟩, fun h => absurd trivial h⟩, fun h => absurd trivial h⟩
      rcases w with w | w | w
      · exact absurd w.1 hc'
      · exact absurd w.1 hc'
      · exact absurd w.2.1 hb'
theorem r_why2 {a b c n d : Int32} {r st : RS} {N : Nat} (hR : RwE r st) (hM : MkI st) (hT : TbE r N st) (hN : 128 * a.toNatClampNeg ≤ N) (ha : mkN st a) (hb : mkN st b) (hc : mkN st c) (hn : hasN st a.toNatClampNeg n.toNatClampNeg) (d1 : 0 ≤ d.toInt) (d2 : d.toInt < 2) : Ok (x9_whyOf a b c n d st) (fun q => q.2 = st ∧ q.1.toInt = wWhy st (wBrk st a.toNatClampNeg) a.toNatClampNeg b.toNatClampNeg c.toNatClampNeg n.toNatClampNeg (d.toInt = 1)) := by
  have hn1 := hn.i
  have a1 := ha.1
  have a2 := ha.2.1
  have b1 := hb.1
  have b2 := hb.2.1
  have c1 := hc.1
  have c2 := hc.2.1
  have n0 : 0 ≤ n.toInt := by omega
  unfold x9_whyOf wWhy
  refine Ok.bp (r_isOther a1 a2 b1 b2 n0 hn1.2) (fun o1 => ?_) (fun o1 => ?_)
  · rw [pif_neg (by decide), Ok_some, pif_pos (Or.inl (show wOth st a.toNatClampNeg b.toNatClampNeg n.toNatClampNeg from o1))]; exact ⟨rfl, rfl⟩
  rw [pif_pos rfl]
  refine Ok.bp (r_isOther a1 a2 c1 c2 n0 hn1.2) (fun o2 => ?_) (fun o2 => ?_)
  · rw [pif_neg (by decide), Ok_some, pif_pos (Or.inr (show wOth st a.toNatClampNeg c.toNatClampNeg n.toNatClampNeg from o2))]; exact ⟨rfl, rfl⟩
  rw [pif_pos rfl]
  have eo : ¬ (wOth st a.toNatClampNeg b.toNatClampNeg n.toNatClampNeg ∨ wOth st a.toNatClampNeg c.toNatClampNeg n.toNatClampNeg) := fun q => q.elim o1 o2
  rw [pif_neg eo]
  refine Ok.bp (r_isNarrower a1 a2 b1 b2 n0 hn1.2) (fun w1 => ?_) (fun w1 => ?_)
  · rw [pif_neg (by decide), Ok_some, pif_pos (Or.inl (show wNar st a.toNatClampNeg b.toNatClampNeg n.toNatClampNeg from w1))]; exact ⟨rfl, rfl⟩
  rw [pif_pos rfl]
  refine Ok.bp (r_isNarrower a1 a2 c1 c2 n0 hn1.2) (fun w2 => ?_) (fun w2 => ?_)
  · rw [pif_neg (by decide), Ok_some, pif_pos (Or.inr (show wNar st a.toNatClampNeg c.toNatClampNeg n.toNatClampNeg from w2))]; exact ⟨rfl, rfl⟩
  rw [pif_pos rfl]
  have ew : ¬ (wNar st a.toNatClampNeg b.toNatClampNeg n.toNatClampNeg ∨ wNar st a.toNatClampNeg c.toNatClampNeg n.toNatClampNeg) := fun q => q.elim w1 w2
  rw [pif_neg ew]
  have go : Ok (x9_whyOf_66 a b c n d st) (fun q => q.2 = st ∧ q.1.toInt = (pif (wMat st a.toNatClampNeg b.toNatClampNeg n.toNatClampNeg ∨ wMat st a.toNatClampNeg c.toNatClampNeg n.toNatClampNeg) 4 (pif (srt st a.toNatClampNeg n.toNatClampNeg = 6 ∧ wIn st (wBrk st a.toNatClampNeg) a.toNatClampNeg b.toNatClampNeg c.toNatClampNeg n.toNatClampNeg (d.toInt = 1)) 5 0) : Nat)) := by
    unfold x9_whyOf_66
    refine Ok.bp (r_mat a1 a2 b1 b2 n0 hn1.2) (fun m1 => ?_) (fun m1 => ?_)
    · rw [pif_neg (by decide), Ok_some, pif_pos (Or.inl m1)]; exact ⟨rfl, rfl⟩
    rw [pif_pos rfl]
    refine Ok.bp (r_mat a1 a2 c1 c2 n0 hn1.2) (fun m2 => ?_) (fun m2 => ?_)
    · rw [pif_neg (by decide), Ok_some, pif_pos (Or.inr m2)]; exact ⟨rfl, rfl⟩
    rw [pif_pos rfl]
    have em : ¬ (wMat st a.toNatClampNeg b.toNatClampNeg n.toNatClampNeg ∨ wMat st a.toNatClampNeg c.toNatClampNeg n.toNatClampNeg) := fun q => q.elim m1 m2
    rw [pif_neg em]
    refine Ok.call (r_sortOf a1 a2 n0 hn1.2) (fun q t hq => ?_)
    obtain ⟨q1, q2⟩ := hq
    have q1 : t = st := q1
    have q2 : q = _ := q2
    subst q1
    rw [q2]
    by_cases h6 : srt t a.toNatClampNeg n.toNatClampNeg = 6
    · rw [pif_pos h6]
      have ob : hasN t b.toNatClampNeg n.toNatClampNeg → srt t b.toNatClampNeg n.toNatClampNeg = 6 := fun h => (Classical.byContradiction (fun q => o1 ⟨h, fun e => q (e.symm.trans h6)⟩))
      have oc : hasN t c.toNatClampNeg n.toNatClampNeg → srt t c.toNatClampNeg n.toNatClampNeg = 6 := fun h => (Classical.byContradiction (fun q => o2 ⟨h, fun e => q (e.symm.trans h6)⟩))
      refine Ok.call (r_within2 hR hM hT hN ha hb hc hn h6 ob oc d1 d2) (fun x y hy => ?_)
      obtain ⟨y1, y2⟩ := hy
      have y1 : y = t := y1
      have y2 : 0 < x.toInt ↔ _ := y2
      subst y1
      rw [Ok_pif, Ok_some, Ok_some, t_le, show (0 : Int32).toInt = 0 from rfl]
      refine ⟨fun c => ⟨rfl, ?_⟩, fun c => ⟨rfl, ?_⟩⟩
      · rw [pif_neg (fun w => by have := y2.mpr w.2; omega)]; rfl
      · rw [pif_pos ⟨h6, y2.mp (by omega)⟩]; rfl
    · rw [pif_neg h6, Ok_some, pif_neg (fun w => h6 w.1)]
      exact ⟨rfl, rfl⟩
  have hd0 : d = 0 ↔ ¬ (d.toInt = 1) := by rw [t_eq, show (0 : Int32).toInt = 0 from rfl]; omega
  by_cases cd : d = 0
  · rw [pif_pos cd]
    refine Ok.bp (r_dif hM ha hc hn) (fun f1 => ?_) (fun f1 => ?_)
    · rw [pif_neg (by decide), Ok_some, pif_pos ⟨hd0.mp cd, f1⟩]; exact ⟨rfl, rfl⟩
    · rw [pif_pos rfl, pif_neg (fun w => f1 w.2)]; exact go
  · rw [pif_neg cd, pif_neg (fun w => cd (hd0.mpr w.1))]; exact go
/-- one entry of the table -/
theorem r_tb92 (st0 : RS) (hM : MkI st0) (P : RS → Prop) (k2 : Int32 → RS → Option RS) (k10 : Int32 → Int32 → RS → Option RS) (k18 : Int32 → Int32 → Int32 → RS → Option RS) (k27 : Int32 → Int32 → Int32 → Int32 → RS → Option RS) (a b c d p : Int32) (ha : mkN st0 a) (hb : mkN st0 b) (hc : mkN st0 c) (d1 : 0 ≤ d.toInt) (d2 : d.toInt < 2) (hp : p.toInt = plA a.toNatClampNeg b.toNatClampNeg c.toNatClampNeg d.toNatClampNeg)
    (hk : ∀ t, Fr [] [57, 58] st0 t → TbE st0 (plA a.toNatClampNeg b.toNatClampNeg c.toNatClampNeg d.toNatClampNeg + 1) t → Ok (k27 a b c (d + 1) t) P) : ∀ (z i : Nat) (x : Int32) (t : RS), x.toInt = i → 1 ≤ i → i ≤ 31 → 31 - i < z → Fr [] [57, 58] st0 t → TbE st0 (plA a.toNatClampNeg b.toNatClampNeg c.toNatClampNeg d.toNatClampNeg) t → ((gF t 57 (plA a.toNatClampNeg b.toNatClampNeg c.toNatClampNeg d.toNatClampNeg) = 0 ∧ gF t 58 (plA a.toNatClampNeg b.toNatClampNeg c.toNatClampNeg d.toNatClampNeg) = 0 ∧ ∀ k, 1 ≤ k → k < i → ¬ wPn st0 a.toNatClampNeg b.toNatClampNeg c.toNatClampNeg (d.toInt = 1) k) ∨ (gF t 57 (plA a.toNatClampNeg b.toNatClampNeg c.toNatClampNeg d.toNatClampNeg) ≠ 0 ∧ TbE st0 (plA a.toNatClampNeg b.toNatClampNeg c.toNatClampNeg d.toNatClampNeg + 1) t)) → Ok (x9_walks_92 k2 k10 k18 k27 z a b c d p x t) P := by
  have a8 : a.toNatClampNeg < 8 := by have := ha.1; have := ha.2.1; rw [t_nat]; omega
  have b8 : b.toNatClampNeg < 8 := by have := hb.1; have := hb.2.1; rw [t_nat]; omega
  have c8 : c.toNatClampNeg < 8 := by have := hc.1; have := hc.2.1; rw [t_nat]; omega
  have d8 : d.toNatClampNeg < 2 := by rw [t_nat]; omega
  have hd1 : (d.toNatClampNeg = 1) = (d.toInt = 1) := propext (by rw [t_nat]; omega)
  have h3 : tl3 st0 a.toNatClampNeg b.toNatClampNeg c.toNatClampNeg := ⟨⟨a8, ha.2.2⟩, ⟨b8, hb.2.2⟩, ⟨c8, hc.2.2⟩⟩
  have pn : p.toNatClampNeg = plA a.toNatClampNeg b.toNatClampNeg c.toNatClampNeg d.toNatClampNeg := by rw [t_nat, hp]; omega
  have p1024 : plA a.toNatClampNeg b.toNatClampNeg c.toNatClampNeg d.toNatClampNeg < 1024 := by unfold plA; omega
  obtain ⟨N, eN⟩ : ∃ N, N = plA a.toNatClampNeg b.toNatClampNeg c.toNatClampNeg d.toNatClampNeg := ⟨_, rfl⟩
  have hN : 128 * a.toNatClampNeg ≤ N := by rw [eN]; unfold plA; omega
  -- one entry more
  have more : ∀ t, TbE st0 N t → (gF t 57 N).toInt = whyE st0 a.toNatClampNeg b.toNatClampNeg c.toNatClampNeg (d.toInt = 1) → (gF t 58 N).toInt = byE st0 a.toNatClampNeg b.toNatClampNeg c.toNatClampNeg (d.toInt = 1) → TbE st0 (N + 1) t := fun t ht h57 h58 a' b' c' d' x1 x2 x3 x4 x5 => by
    by_cases q : plA a' b' c' d' < N
    · exact ht a' b' c' d' x1 x2 x3 x4 q
    · have e : plA a' b' c' d' = N := by omega
      rw [eN] at e
      obtain ⟨e1, e2, e3, e4⟩ := plA_inj x2 x3 x4 b8 c8 d8 e
      rw [e1, e2, e3, e4, ← eN, hd1]
      exact ⟨h57, h58⟩
  rw [← eN] at hk pn p1024 hp ⊢
  intro z
  induction z with
  | zero => intro i x t h1 h2 h3; omega
  | succ z ih =>
    intro i x t hx hi1 hi hz hF hT hS
    have e := inc (x := x) (by omega) (by omega)
    have xn : x.toNatClampNeg = i := by rw [t_nat]; omega
    have hR := rwe_of hF
    have hMt : MkI t := hM.fr hR.1 hR.2.1 hR.2.2.2.1 hR.2.2.2.2.2.1 hR.2.2.2.2.2.2
    have ma : mkN t a := ⟨ha.1, ha.2.1, by rw [hR.1]; exact ha.2.2⟩
    have mb : mkN t b := ⟨hb.1, hb.2.1, by rw [hR.1]; exact hb.2.2⟩
    have mc : mkN t c := ⟨hc.1, hc.2.1, by rw [hR.1]; exact hc.2.2⟩
    have hhas := r_has (m := a) (n := x) (st := t) ha.1 ha.2.1
    rw [xn] at hhas
    rw [x9_walks_92_s]
    unfold x9_walks_162
    generalize x + 1 = x' at e ⊢
    simp only [Ok_pif, Ok_gd, Ok_nam, t_in, pn]
    rw [t_le, show (31 : Int32).toInt = 31 from rfl]
    have doneE : ∀ t, (gF t 57 N = 0 ∧ gF t 58 N = 0 ∧ ∀ k, 1 ≤ k → k < 31 → ¬ wPn st0 a.toNatClampNeg b.toNatClampNeg c.toNatClampNeg (d.toInt = 1) k) → TbE st0 N t → TbE st0 (N + 1) t := fun t hs ht => by
      have f0 : wFst st0 a.toNatClampNeg b.toNatClampNeg c.toNatClampNeg (d.toInt = 1) = 0 := fstF_0 30 1 (fun k k1 k2 => hs.2.2 k k1 (by omega))
      refine more t ht ?_ ?_
      · rw [hs.1]; unfold whyE; rw [pif_pos h3, pif_pos f0]; rfl
      · rw [hs.2.1]; unfold byE; rw [pif_pos h3, f0]; rfl
    refine ⟨fun c31 => hk t hF ?_, fun c31 => ⟨by omega, fun c0 => ?_, fun c0 => hk t hF ?_⟩⟩
    · rcases hS with hS | hS
      · exact doneE t ⟨hS.1, hS.2.1, fun k k1 k2 => hS.2.2 k k1 (by omega)⟩ hT
      · exact hS.2
    · have hS := hS.resolve_right (fun q => q.1 c0)
      refine Ok.bp hhas (fun hh => ?_) (fun hh => ?_)
      · rw [pif_neg (by decide)]
        have hw := r_why2 (n := x) (d := d) hR hMt hT hN ma mb mc (by rw [xn]; exact hh) d1 d2
        rw [xn, rwe_why hR, rwe_brk hR] at hw
        refine Ok.call hw (fun w u hu => ?_)
        obtain ⟨u1, u2⟩ := hu
        have u1 : u = t := u1
        have u2 : w.toInt = _ := u2
        subst u1
        simp only [Ok_pif, Ok_gd, Ok_nam, t_in, pn]
        have g57 : ∀ f : Nat → Int32, gF (sF u 57 f) 57 = f := fun f => rfl
        have hh0 : hasN st0 a.toNatClampNeg i := by rw [← rwe_has hR]; exact hh
        have tb2 : ∀ (v : Int32), TbE st0 N (sF (sF u 57 (upd (gF u 57) N w)) 58 (upd (gF (sF u 57 (upd (gF u 57) N w)) 58) N v)) := fun v a' b' c' d' x1 x2 x3 x4 x5 => by
          show (upd (gF u 57) N w (plA a' b' c' d')).toInt = _ ∧ (upd (gF u 58) N v (plA a' b' c' d')).toInt = _
          rw [upd_ne (by omega), upd_ne (by omega)]
          exact hT a' b' c' d' x1 x2 x3 x4 x5
        have fr2 : ∀ (v : Int32), Fr [] [57, 58] st0 (sF (sF u 57 (upd (gF u 57) N w)) 58 (upd (gF (sF u 57 (upd (gF u 57) N w)) 58) N v)) := fun v => (hF.sF (by decide)).sF (by decide)
        have e57 : gF (sF u 57 (upd (gF u 57) N w)) 57 N = w := by rw [g57, upd_eq rfl]
        rw [e57]
        refine ⟨by omega, by omega, fun w0 => ⟨by omega, ih (i + 1) x' _ (by omega) (by omega) (by omega) (by omega) (fr2 0) (tb2 0) (Or.inl ⟨?_, ?_, fun k k1 k2 => ?_⟩)⟩, fun w0 => ⟨by omega, ih (i + 1) x' _ (by omega) (by omega) (by omega) (by omega) (fr2 x) (tb2 x) (Or.inr ⟨?_, ?_⟩)⟩⟩
        · show upd (gF u 57) N w N = 0
          rw [upd_eq rfl]; exact w0
        · show upd (gF u 58) N 0 N = 0
          rw [upd_eq rfl]
        · by_cases ck : k = i
          · rw [ck]
            intro q
            apply q.2
            rw [w0, show (0 : Int32).toInt = 0 from rfl] at u2
            omega
          · exact hS.2.2 k k1 (by omega)
        · show upd (gF u 57) N w N ≠ 0
          rw [upd_eq rfl]; exact w0
        · have hwi : wPn st0 a.toNatClampNeg b.toNatClampNeg c.toNatClampNeg (d.toInt = 1) i := ⟨hh0, fun q => w0 (by rw [t_eq, u2, q]; rfl)⟩
          have ff : wFst st0 a.toNatClampNeg b.toNatClampNeg c.toNatClampNeg (d.toInt = 1) = i := fstF_n 30 1 i hi1 (by omega) hwi (fun k k1 k2 => hS.2.2 k k1 k2)
          refine more _ (tb2 x) ?_ ?_
          · show (upd (gF u 57) N w N).toInt = _
            rw [upd_eq rfl, u2]
            unfold whyE
            rw [pif_pos h3, ff, pif_neg (by omega)]
          · show (upd (gF u 58) N x N).toInt = _
            rw [upd_eq rfl, hx]
            unfold byE
            rw [pif_pos h3, ff]
      · rw [pif_pos rfl, Ok_nam]
        exact ih (i + 1) x' t (by omega) (by omega) (by omega) (by omega) hF hT (Or.inl ⟨hS.1, hS.2.1, fun k k1 k2 => by
          by_cases ck : k = i
          · rw [ck]; intro q; exact hh (by rw [rwe_has hR]; exact q.1)
          · exact hS.2.2 k k1 (by omega)⟩)
    · exact (hS.resolve_left (fun q => c0 q.1)).2
