/-! class: a make is told -/
def TlP (f : Nat → Int32) (n mk ar : Nat) (g0 : CS) (o : Option (List FdT)) (q : Option Nat × CS) : Prop := Tf 46 101 286 g0 q.2 ∧ TrI f n q.2 ∧ Rs o (fun L => q.1 = some mk ∧ MbI f L mk ar q.2) (q.1 = none)
theorem w_t25b {f : Nat → Int32} {n mk ar z : Nat} {o : Option (List FdT)} {pm i : Int32} {g0 g : CS} (hz : 1 ≤ z) (ho : o = none) (hT : Tf 46 101 286 g0 g) (h : TrI f n g) (hb : qI g 45 4 ≠ 0) : Ok (fX6_tell_25 45 z pm (some mk) i g) (TlP f n mk ar g0 o) := by
  obtain ⟨z, rfl⟩ : ∃ y, z = y + 1 := ⟨z - 1, by omega⟩
  rw [fX6_tell_25_s, Ok_pif, Ok_some, Ok_gd, Ok_pif, Ok_some]
  exact ⟨fun _ => ⟨hT, h, Rs.n ho rfl⟩, fun _ => ⟨h.1.1, fun q => absurd q hb, fun _ => ⟨hT, h, Rs.n ho rfl⟩⟩⟩
theorem w_tell25 {f : Nat → Int32} {n m mk ar : Nat} {T : Nat → Prop} {pm : Int32} {g0 : CS} (hm : pm.toInt = m) (hm8 : m < 8) (hmk : qn g0 ≤ mk) (har : qn g0 ≤ ar) (hMs0 : MsI T g0) : ∀ (z y : Nat) (L : List FdT) (p : Nat) (i : Int32) (g : CS), 12 ≤ z + L.length → 12 ≤ y + L.length → L.length ≤ 10 → i.toInt = L.length → Tf 46 (2 + 9 * L.length) (33 + 23 * L.length) g0 g → Tr f n p g → p ≤ n → MbI f L mk ar g → Ok (fX6_tell_25 45 z pm (some mk) i g) (TlP f n mk ar g0 (mkF f n m T y L p)) := by
  intro z
  induction z with
  | zero => intro y L p i g a b c; omega
  | succ z ih =>
    intro y L p i g hz hy hLL hi hG hT hp hM
    obtain ⟨y, rfl⟩ : ∃ x, y = x + 1 := ⟨y - 1, by omega⟩
    have hs := rn_le blk f hp
    have hid := rn_idem blk f n p
    have ei := inc (x := i) (by omega) (by omega)
    have ho : mkF f n m T (y + 1) L p = pif (rn blk f n p < n) (pif (L.length = 10) none ((flF f n m T L (rn blk f n p)).bind (fun x => mkF f n m T y (x.1 :: L) x.2))) (some L) := rfl
    rw [ho, fX6_tell_25_s, Ok_pif, t_lt, hi, show (10 : Int32).toInt = 10 from rfl]
    refine ⟨fun c => by omega, fun _ => ?_⟩
    rw [Ok_gd, Ok_pif]
    refine ⟨hT.1.1.1, fun _ => Ok.callv (w_skip hT hp) (fun u hu => ?_), fun q => absurd hT.2.2 q⟩
    obtain ⟨u1, u2⟩ := hu
    generalize rn blk f n p = s at *
    have hGu : Tf 46 (2 + 9 * L.length) (33 + 23 * L.length) g0 u := (hG.tr u2).le (by omega) (by omega)
    have hMu := hM.f0 u2 hT.1
    have hMsu := hMs0.fr hGu (Or.inl rfl)
    unfold fX6_tell_42 fX6_tell_53 fX6_tell_73 fX6_tell_83
    generalize i + 1 = i' at *
    simp only [Ok_gd, Ok_ono]
    refine ⟨u1.1.1.1, 33, u1.1.1.2.1, u1.1.2.1.1, Ok.call (c_size u1.1.2.1) (fun r t ht => ?_)⟩
    cases ht
    rw [Ok_pif, t_lt, u1.2.1, u1.1.2.2.1]
    refine ⟨fun c => ?_, fun c => ?_⟩
    · rw [pif_pos (show s < n by omega), Ok_pif, t_eq, hi, show (10 : Int32).toInt = 10 from rfl]
      refine ⟨fun c10 => ?_, fun c10 => ?_⟩
      · rw [pif_pos (show L.length = 10 by omega), Ok_gd]
        refine ⟨u1.1.1.1, Ok.call (w_bad u1.1 hGu (by decide)) (fun r v hv => ?_)⟩
        rw [Ok_nam]
        exact w_t25b (by omega) rfl (hv.2.1.le (by omega) (by omega)) hv.2.2.1 hv.2.2.2
      · rw [pif_neg (show ¬ L.length = 10 by omega), Ok_gd]
        refine ⟨u1.1.1.1, Ok.call (w_takeField (T := T) hm hm8 hs u1 hid hMsu hMu (by omega) hGu hmk har) (fun r v hv => ?_)⟩
        rw [Ok_nam]
        have hle := flF_le (f := f) (n := n) (m := m) (p := s) (T := T) (L := L)
        cases eo : flF f n m T L s with
        | none =>
          have hb := hv.2 eo
          exact w_t25b (by omega) rfl (hb.2.1.le (by omega) (by omega)) hb.2.2.1 hb.2.2.2
        | some x =>
          obtain ⟨a1, a2, a3, a4⟩ := hv.1 x eo
          have a2 : Tf 46 (2 + 9 * L.length + 9) (33 + 23 * L.length + 23) g0 v := a2
          exact ih y (x.1 :: L) x.2 i' v (by simp; omega) (by simp; omega) (by simp; omega) (by rw [ei]; simp; omega) (a2.le (by simp; omega) (by simp; omega)) a3 (hle x eo) a4
    · rw [pif_neg (show ¬ s < n by omega), Ok_some]
      exact ⟨hGu.le (by omega) (by omega), u1.1, Rs.s rfl ⟨rfl, hMu⟩⟩
theorem w_tell {f : Nat → Int32} {n m : Nat} {T : Nat → Prop} {pm : Int32} {g : CS} (hm : pm.toInt = m) (hm8 : m < 8) (h : TrI f n g) (hMs : MsI T g) : Ok (fX6_tell 45 pm g) (fun q => ∃ g0 ar, (Tf 46 0 0 (wI g 45 3 0) g0 ∧ qn g0 = qn g ∧ qs g0 = qs g ∧ qI g0 45 3 = 0 ∧ LwI g0) ∧ TlP f n (qn g) ar g0 (mkF f n m T 12 [] 0) q) := by
  have hl := h.2.2.2.2.2
  have hn := hl.n46
  have hn4 := h.n400
  unfold fX6_tell fX6_tell_18
  simp only [Ok_gd, Ok_nam, Ok_ono]
  have T1 : Tf 46 0 0 (wI g 45 3 0) (wI (wI (wI g 45 3 0) 45 4 0) 45 5 (-1)) := (Tf.w45 (by decide)).tr (Tf.w45 (by decide))
  have L0 : LwI (wI (wI (wI g 45 3 0) 45 4 0) 45 5 (-1)) := ((hl.i (by decide) (by omega)).i (by decide) (by show 45 ≠ lb g; omega)).i (by decide) (by show 45 ≠ lb g; omega)
  have I3 : qI (wI (wI (wI g 45 3 0) 45 4 0) 45 5 (-1)) 45 3 = 0 := by
    rw [qI_wI, if_pos rfl, if_neg (by decide), qI_wI, if_pos rfl, if_neg (by decide), qI_wI, if_pos rfl, if_pos rfl]
  have I4 : qI (wI (wI (wI g 45 3 0) 45 4 0) 45 5 (-1)) 45 4 = 0 := by
    rw [qI_wI, if_pos rfl, if_neg (by decide), qI_wI, if_pos rfl, if_pos rfl]
  have N0 : qn (wI (wI (wI g 45 3 0) 45 4 0) 45 5 (-1)) = qn g := rfl
  have S0 : qs (wI (wI (wI g 45 3 0) 45 4 0) 45 5 (-1)) = qs g := rfl
  have Q0 : TrI f n (wI (wI (wI g 45 3 0) 45 4 0) 45 5 (-1)) := by
    obtain ⟨⟨a1, a2, a3, a4⟩, a5, a6, a7, a8, a9⟩ := h
    have ei : ∀ i, i ≠ 45 → qI (wI (wI (wI g 45 3 0) 45 4 0) 45 5 (-1)) i = qI g i := fun i hi => by rw [qI_wo hi, qI_wo hi, qI_wo hi]
    refine ⟨⟨a1, a2, a3, a4⟩, ?_, by rw [ei 33 (by decide)]; exact a6, fun j hj => by rw [ei 34 (by decide)]; exact a7 j hj, ⟨a8.1, fun i hi => ?_⟩, L0⟩
    · obtain ⟨r1, r2, r3, r4, r5, r6, r7⟩ := a5
      exact ⟨r1, r2, r3, r4, by rw [ei 33 (by decide)]; exact r5, by rw [ei 33 (by decide)]; exact r6, r7⟩
    · obtain ⟨b1, b2, b3, b4, b5, b6⟩ := a8.2 i hi
      exact ⟨b1, b2, by rw [ei i (by omega)]; exact b3, b4, b5, by rw [ei (9 + i) (by omega)]; exact b6⟩
  have M0 : MsI T (wI (wI (wI g 45 3 0) 45 4 0) 45 5 (-1)) := hMs
  generalize wI (wI (wI g 45 3 0) 45 4 0) 45 5 (-1) = g0 at *
  rw [N0]
  have hl0 := Q0.2.2.2.2.2
  refine ⟨h.1.1, qn g, rfl, by rw [qk_wN, N0, if_pos rfl], ?_⟩
  unfold fX1_init fX1_init_4 fX1_init_10
  refine Ok.callv (Q := fun t => t = wI (wP (wN (wN g0 4 0 2) 26 31 31) (qn g) 0 (some (qn g + 1))) (qn g) 1 0) ?_ (fun t ht => ?_)
  · simp only [Ok_gd, Ok_nam, Ok_some]
    refine ⟨by decide, ?_, ?_⟩
    · show qk (wN (wN g0 4 0 2) 26 31 31) (qn g) = 4
      rw [qk_wN, qn_wN, N0, if_neg (by omega), qk_wN, N0, if_pos rfl]
    · rw [qn_wN, N0]
      rfl
  · have lN : lb (wN g0 4 0 2) = lb g0 := by unfold lb; rw [qP_wN, if_neg (by omega)]
    have lb10 := hl0.2.2.2.2.2.2.2.2.2.1
    have LN1 : LwI (wN g0 4 0 2) := hl0.n
    have LN2 : LwI (wN (wN g0 4 0 2) 26 31 31) := LN1.n
    have lN2 : lb (wN (wN g0 4 0 2) 26 31 31) = lb g0 := by unfold lb; rw [qP_wN, qn_wN, if_neg (by omega), qP_wN, if_neg (by omega)]
    have t1 : Tf 46 2 33 g0 t := by
      rw [ht]
      exact ((((Tf.mk0 (F := 46) (kd := 4) (n := 0) (sl := 2) hl0).tr (Tf.mk0 (F := 46) (kd := 26) (n := 31) (sl := 31) LN1)).np (i := qn g) (k := 0) (v := some (qn g + 1)) (by omega) (by omega)).ni (i := qn g) (k := 1) (v := 0) (by omega) (by omega)).le (by omega) (by omega)
    have t2 : LwI t := by
      rw [ht]
      refine (LN2.p (by omega)).i (by omega) ?_
      have : lb (wP (wN (wN g0 4 0 2) 26 31 31) (qn g) 0 (some (qn g + 1))) = lb g0 := by unfold lb; rw [qP_wo (by omega)]; exact lN2
      rw [this]
      omega
    have tk : ∀ i, qk t i = if i = qn g + 1 then 26 else if i = qn g then 4 else qk g0 i := fun i => by rw [ht, ← N0]; rfl
    have tl : ql t (qn g + 1) = 31 := by rw [ht, ql_wI, ql_wP, ql_wN, qn_wN, N0, if_pos rfl]
    have tn : qn t = qn g + 2 := by rw [ht, qn_wI, qn_wP, qn_wN, qn_wN, N0]
    have tP : qP t (qn g) 0 = some (qn g + 1) := by rw [ht, qP_wI, qP_wP, if_pos rfl, if_pos rfl]
    have tPa : ∀ j, qP t (qn g + 1) j = none := fun j => by rw [ht, qP_wI, qP_wo (by omega), qP_wN, qn_wN, N0, if_pos rfl]
    have tI : qI t (qn g) 1 = 0 := by rw [ht, qI_wI, if_pos rfl, if_pos rfl]
    have t45 : qI t 45 = qI g0 45 := by rw [ht, qI_wo (by omega), qI_wP, qI_wN, qn_wN, if_neg (by omega), qI_wN, if_neg (by omega)]
    clear ht
    have tT : Tr f n 0 t := ⟨Q0.fr t1 t2 (Or.inl rfl), by rw [t45, I3]; rfl, by rw [t45]; exact I4⟩
    have tM : MbI f [] (qn g) (qn g + 1) t := ⟨⟨by rw [tk, if_neg (by omega), if_pos rfl], by omega, by omega⟩, ⟨by rw [tk, if_pos rfl], by omega, by omega⟩, tP, tl, by rw [tI]; rfl, fun j _ => ⟨fun q => absurd (tPa j) q, fun q => by obtain ⟨x, hx, -⟩ := q; cases hx⟩, fun x hx => (by cases hx)⟩
    unfold fX6_tell_22
    refine (w_tell25 (T := T) (g0 := g0) hm hm8 (by omega) (by omega : qn g0 ≤ qn g + 1) M0 fuel 12 [] 0 0 t (by unfold fuel; simp) (by simp) (by simp) rfl (t1.le (by simp) (by simp)) tT (by omega) tM).mono (fun q hq => ⟨g0, qn g + 1, ⟨T1, N0, S0, I3, hl0⟩, hq⟩)
