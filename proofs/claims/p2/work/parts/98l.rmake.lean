theorem NumG.d {f : Nat → Int32} {n s : Nat} (h : NumG f n s) : s < n ∧ dgt (f s) := by
  refine Classical.byContradiction (fun q => ?_)
  have e : rn dgt f n s = s := rn_stop q
  obtain ⟨-, h2, -⟩ := h
  rw [e, Nat.sub_self] at h2
  exact absurd h2 (by show ¬ (1 : Int) ≤ 0; decide)
theorem r_42b {pm s0 : Int32} {st : RS} (h13 : gI st 13 ≠ 0) : Ok (x9_field_42 pm s0 st) (fun t => t = st) := by
  unfold x9_field_42
  simp only [Ok_pif, Ok_some]
  exact ⟨fun q => absurd q h13, fun _ => trivial⟩
theorem RfI.fr {f : Nat → Int32} {m : Nat} {T : Nat → Prop} {L : List FdT} {I : List Nat} {st t : RS} (h : RfI f m T L st) (hF : Fr I [0] st t) (hI : 27 ∉ I) : RfI f m T L t := by
  obtain ⟨h1, h2, h3⟩ := h
  refine ⟨fun j hj => ?_, fun x hx => ?_, ?_⟩
  · rw [(hF.2 8 (by decide)).1]; exact h1 j hj
  · have hx' := h2 x hx
    unfold FdE DfK at *
    rw [(hF.2 1 (by decide)).1, (hF.2 2 (by decide)).1, (hF.2 3 (by decide)).1, (hF.2 4 (by decide)).1, (hF.2 5 (by decide)).2, (hF.2 6 (by decide)).2, (hF.2 7 (by decide)).1]
    exact hx'
  · rw [(hF.1 27 hI).1]; exact h3
/-- the other makes' fields stay -/
def MF (m : Nat) (st t : RS) : Prop := Fr [11, 13, 14, 15, 16, 17, 18, 27] [1, 2, 3, 4, 5, 6, 7, 8] st t ∧ (∀ j, j < 31 * m ∨ 31 * m + 31 ≤ j → gF t 1 j = gF st 1 j ∧ gF t 2 j = gF st 2 j ∧ gF t 3 j = gF st 3 j ∧ gF t 4 j = gF st 4 j ∧ gL t 5 j = gL st 5 j ∧ gL t 6 j = gL st 6 j ∧ gF t 8 j = gF st 8 j) ∧ (∀ j, j < 372 * m ∨ 372 * m + 372 ≤ j → gF t 7 j = gF st 7 j)
theorem MF.tr {m : Nat} {a b c : RS} (h : MF m a b) (k : MF m b c) : MF m a c := ⟨h.1.tr k.1, fun j hj => by
  obtain ⟨a1, a2, a3, a4, a5, a6, a7⟩ := h.2.1 j hj
  obtain ⟨b1, b2, b3, b4, b5, b6, b7⟩ := k.2.1 j hj
  exact ⟨b1.trans a1, b2.trans a2, b3.trans a3, b4.trans a4, b5.trans a5, b6.trans a6, b7.trans a7⟩, fun j hj => (k.2.2 j hj).trans (h.2.2 j hj)⟩
theorem MF.of {m : Nat} {I : List Nat} {st t : RS} (h : Fr I [] st t) (hI : (I.all (fun k => [11, 13, 14, 15, 16, 17, 18, 27].contains k)) = true) : MF m st t := ⟨h.d hI (by decide), fun j _ => ⟨by rw [(h.2 1 (by simp)).1], by rw [(h.2 2 (by simp)).1], by rw [(h.2 3 (by simp)).1], by rw [(h.2 4 (by simp)).1], by rw [(h.2 5 (by simp)).2], by rw [(h.2 6 (by simp)).2], by rw [(h.2 8 (by simp)).1]⟩, fun j _ => by rw [(h.2 7 (by simp)).1]⟩
theorem MF.ff {m F : Nat} {st t : RS} (h : FF F st t) (h1 : 31 * m ≤ F) (h2 : F < 31 * m + 31) : MF m st t := ⟨h.1.d (by decide) (by decide), fun j hj => h.2.1 j (by omega), fun j hj => h.2.2 j (by omega)⟩
theorem r_fieldT {f : Nat → Int32} {n m p : Nat} {T : Nat → Prop} {L : List FdT} {pm : Int32} {st : RS} (hm : pm.toInt = m) (hm8 : m < 8) (hTo : ∀ j, j < 8 → (T j ↔ gF st 0 j ≠ 0)) (hL : RfI f m T L st) (hL10 : L.length < 10) (h : Tx f n p st) (hp : p ≤ n) (h13 : gI st 13 = 0) (h18 : (gI st 18).toInt < p) (hWd : WdI st) : Ok (x9_field pm st) (fun t => ∃ F, 31 * m ≤ F ∧ F < 31 * m + 31 ∧ FlP f n m T L (flF f n m T L p) F st t) := by
  unfold x9_field
  refine Ok.call (r_next h) (fun c t ht => ?_)
  obtain ⟨t1, t2, t3, t4⟩ := ht
  have t1 : Fr [11, 17] [] st t := t1
  have t2 : Tx f n (rn blk f n p) t := t2
  have hs := rn_le blk f hp
  have hsg := rn_ge blk f n p
  obtain ⟨s, es⟩ : ∃ s, s = rn blk f n p := ⟨_, rfl⟩
  have hid : rn blk f n s = s := by rw [es]; exact rn_idem blk f n p
  have ho : flF f n m T L p = pif (NumG f n s ∧ ¬ seenN L (dvN f s (rn dgt f n s - s)).toNat) (pif (rn dgt f n s < n ∧ ltr (f (rn dgt f n s))) none (tlF f n m T L (dvN f s (rn dgt f n s - s)).toNat (rn dgt f n s))) none := by rw [es]; rfl
  rw [← es] at t2 hs hsg
  clear es
  rw [ho]
  clear ho
  have c27 : gI t 27 = gI st 27 := (t1.1 27 (by decide)).1
  have c13 : gI t 13 = 0 := ((t1.1 13 (by decide)).1).trans h13
  have c18 : gI t 18 = gI st 18 := (t1.1 18 (by decide)).1
  have l27 := hL.2.2
  have n4 := h.2.2.2.1
  rw [Ok_pif]
  refine ⟨fun q => ?_, fun _ => ?_⟩
  · exfalso
    have q : gI t 27 = 10 := q
    rw [c27] at q
    rw [q] at l27
    have : (10 : Int32).toInt = 10 := rfl
    omega
  unfold x9_field_23
  rw [Ok_pif]
  refine ⟨fun _ => Ok.call (r_number t2 hs c13) (fun k u hu => ?_), fun q => absurd c13 q⟩
  obtain ⟨u1, u2, u3⟩ := hu
  rw [hid] at u3
  have u1 : Fr [11, 13, 14, 17, 18] [] t u := u1
  have hFu : Fr [11, 13, 14, 17, 18] [] st u := (t1.d (by decide) (by decide)).tr u1
  rcases u3 with ⟨⟨a1, a2, a3, a4⟩, b1, b2, b3, b4⟩ | ⟨a, b⟩
  · have b1 : gI u 13 = 0 := b1
    have b2 : k.toInt = dvN f s (rn dgt f n s - s) := b2
    have b3 : Tx f n (rn dgt f n s) u := b3
    have b4 : (gI u 18).toInt = rn dgt f n s := b4
    obtain ⟨num, en⟩ : ∃ num, num = (dvN f s (rn dgt f n s - s)).toNat := ⟨_, rfl⟩
    have n1 := a4.2.1
    have n2 := a4.2.2
    have hk : k.toInt = (num : Nat) := by rw [b2]; omega
    have hnum : 1 ≤ num ∧ num ≤ 30 := by omega
    rw [← en]
    clear en b2 n1 n2
    have he1 := rn_le dgt f hs
    have hf : (31 * pm + k).toInt = 31 * pm.toInt + k.toInt := i31 (by omega) (by omega) (by omega) (by omega)
    have hfl : (31 * pm + k).toInt = (31 * m + num : Nat) := by rw [hf]; omega
    have fln : (31 * pm + k).toNatClampNeg = 31 * m + num := by rw [t_nat]; omega
    have e8 : gF u 8 = gF st 8 := (hFu.2 8 (by simp)).1
    have hseen := hL.1 num (by omega)
    unfold x9_field_42
    simp only [Ok_pif, Ok_nam, Ok_gd, fln, e8]
    refine ⟨fun _ => ⟨by rw [t_in]; omega, fun c8 => ?_, fun c8 => ?_⟩, fun q => absurd b1 q⟩
    · have hns : ¬ seenN L num := fun q => hseen.mpr q c8
      refine (r_76 hm hm8 hTo hnum hfl hFu hL (by omega) hns b3 he1 b1 b4 (fun k k1 k2 => by rw [(hFu.1 k (by simp; omega)).2]; exact hWd k k1 k2)).mono (fun v hv => ⟨31 * m + num, by omega, by omega, ?_⟩)
      rw [pif_pos ⟨a4, hns⟩]
      exact hv
    · refine Ok.callv (r_fail (by decide)) (fun v hv => (r_76b (b3.fr (F := []) (hv.1.d (I' := [13, 14]) (by decide) (by decide)) (by decide) (by decide) (by decide)) he1 hv.2).mono (fun w hw => ⟨31 * m, by omega, by omega, ?_⟩))
      rw [pif_neg (fun q => q.2 (hseen.mp c8))]
      exact ⟨FF.of ((hFu.tr (hv.1.d (by decide) (by decide))).tr (hw.1.d (by decide) (by decide))) (by decide), Rs.n rfl hw.2⟩
  · refine (r_42b b).mono (fun v hv => ⟨31 * m, by omega, by omega, ?_⟩)
    rw [hv, pif_neg (fun q => a ⟨q.1.d.1, q.1.d.2, by rw [c18]; omega, q.1⟩)]
    exact ⟨FF.of hFu (by decide), Rs.n rfl b⟩
/-- what a make's text leaves -/
def MkP (m : Nat) (f : Nat → Int32) (T : Nat → Prop) (o : Option (List FdT)) (st : RS) (q : Int32 × RS) : Prop := ∃ t, MF m st t ∧ Rs o (fun L => RfI f m T L t ∧ q = (gI t 27, sF t 0 (upd (gF t 0) m (vp_nar .boolean 1)))) (q = (-1, t))
theorem r_109 {m : Nat} {f : Nat → Int32} {T : Nat → Prop} {o : Option (List FdT)} {pm : Int32} {st0 st : RS} (hm : pm.toInt = m) (hm8 : m < 8) (hF : MF m st0 st) (h : Rs o (fun L => gI st 13 = 0 ∧ RfI f m T L st) (gI st 13 ≠ 0)) : Ok (x9_make_109 pm st) (MkP m f T o st0) := by
  have pn : pm.toNatClampNeg = m := by rw [t_nat]; omega
  have h2 : Fr [15, 16] [] st (sI (sI st 15 (gI st 13)) 16 (gI (sI st 15 (gI st 13)) 14)) := (Fr.rf.sI (by decide)).sI (by decide)
  unfold x9_make_109
  simp only [Ok_pif, Ok_gd, Ok_nam, Ok_some, pn]
  refine ⟨fun c => ⟨by rw [t_in]; omega, _, hF.tr (MF.of h2 (by decide)), ?_⟩, fun c => ⟨_, hF.tr (MF.of h2 (by decide)), ?_⟩⟩
  · have c : gI st 13 = 0 := c
    exact ⟨fun L hL => ⟨(h.1 L hL).2.fr (h2.d (by decide) (by decide)) (by decide), rfl⟩, fun q => absurd c (h.2 q)⟩
  · have c : ¬ gI st 13 = 0 := c
    exact ⟨fun L hL => absurd (h.1 L hL).1 c, fun _ => rfl⟩
theorem r_86b {m : Nat} {f : Nat → Int32} {T : Nat → Prop} {o : Option (List FdT)} {pm : Int32} {st0 st : RS} {z : Nat} (hz : 1 ≤ z) (hm : pm.toInt = m) (hm8 : m < 8) (hF : MF m st0 st) (ho : o = none) (h : gI st 13 ≠ 0) : Ok (x9_make_86 z pm st) (MkP m f T o st0) := by
  obtain ⟨z, rfl⟩ : ∃ y, z = y + 1 := ⟨z - 1, by omega⟩
  rw [x9_make_86_s, Ok_pif]
  exact ⟨fun q => absurd q h, fun _ => r_109 hm hm8 hF (Rs.n ho h)⟩
theorem r_make86 {f : Nat → Int32} {n m : Nat} {T : Nat → Prop} {pm : Int32} (hm : pm.toInt = m) (hm8 : m < 8) (hB : ∀ j, j < n → 0 ≤ (f j).toInt) (st0 : RS) : ∀ (z y : Nat) (L : List FdT) (p : Nat) (st : RS), 12 ≤ z + L.length → 12 ≤ y + L.length → L.length ≤ 10 → (∀ j, j < 8 → (T j ↔ gF st 0 j ≠ 0)) → MF m st0 st → RfI f m T L st → Tx f n p st → p ≤ n → gI st 13 = 0 → (gI st 18).toInt < p → WdI st → Ok (x9_make_86 z pm st) (MkP m f T (mkF f n m T y L p) st0) := by
  intro z
  induction z with
  | zero => intro y L p st a b c; omega
  | succ z ih =>
    intro y L p st hz hy hLL hTo hMF hL h hp h13 h18 hWd
    obtain ⟨y, rfl⟩ : ∃ x, y = x + 1 := ⟨y - 1, by omega⟩
    have hs := rn_le blk f hp
    have hsg := rn_ge blk f n p
    have n4 := h.2.2.2.1
    have ho : mkF f n m T (y + 1) L p = pif (rn blk f n p < n) (pif (L.length = 10) none ((flF f n m T L (rn blk f n p)).bind (fun x => mkF f n m T y (x.1 :: L) x.2))) (some L) := rfl
    rw [ho, x9_make_86_s, Ok_pif]
    refine ⟨fun _ => Ok.call (r_next h) (fun c t ht => ?_), fun q => absurd h13 q⟩
    obtain ⟨t1, t2, t3, t4⟩ := ht
    have t1 : Fr [11, 17] [] st t := t1
    have t2 : Tx f n (rn blk f n p) t := t2
    have t4 : c = pk1 f n (rn blk f n p) := t4
    have c13 : gI t 13 = 0 := ((t1.1 13 (by decide)).1).trans h13
    have c18 : gI t 18 = gI st 18 := (t1.1 18 (by decide)).1
    have hMt : MF m st0 t := hMF.tr (MF.of t1 (by decide))
    have hLt : RfI f m T L t := hL.fr (I := [11, 17]) (t1.d (by decide) (by decide)) (by decide)
    have hTt : ∀ j, j < 8 → (T j ↔ gF t 0 j ≠ 0) := fun j hj => by rw [(t1.2 0 (by simp)).1]; exact hTo j hj
    have hWt : WdI t := fun k k1 k2 => by rw [(t1.1 k (by simp; omega)).2]; exact hWd k k1 k2
    generalize rn blk f n p = s at *
    rw [Ok_pif]
    by_cases cs : s < n
    · rw [pif_pos cs]
      have hc : c ≠ -1 := fun q => by
        rw [t4] at q
        unfold pk1 at q
        rw [if_pos cs] at q
        have := hB s cs
        rw [q] at this
        exact absurd this (by decide)
      refine ⟨fun q => absurd q hc, fun _ => ?_⟩
      by_cases cl : L.length = 10
      · rw [pif_pos cl]
        unfold x9_field
        have : Ok (bnd (x9_next t) (fun r_100 st_98 => pif ((gI st_98 27) = 10) (bnv (x9_fail 1 (gI st_98 17) st_98) (fun st_102 => x9_field_23 pm st_102)) (x9_field_23 pm st_98))) (fun u => Fr [11, 13, 14, 17] [] t u ∧ gI u 13 ≠ 0) := by
          refine Ok.call (r_next t2) (fun d u hu => ?_)
          have u1 : Fr [11, 17] [] t u := hu.1
          have e27 : gI u 27 = 10 := by
            rw [(u1.1 27 (by decide)).1, t_eq, hLt.2.2, cl]
            rfl
          rw [Ok_pif]
          refine ⟨fun _ => Ok.callv (r_fail (by decide)) (fun v hv => ?_), fun q => absurd e27 q⟩
          unfold x9_field_23
          rw [Ok_pif]
          refine ⟨fun q => absurd q hv.2, fun _ => (r_42b hv.2).mono (fun w hw => ?_)⟩
          rw [hw]
          exact ⟨(u1.d (by decide) (by decide)).tr (hv.1.d (by decide) (by decide)), hv.2⟩
        exact Ok.callv this (fun u hu => r_86b (by omega) hm hm8 (hMt.tr (MF.of hu.1 (by decide))) rfl hu.2)
      · rw [pif_neg cl]
        refine Ok.callv (r_fieldT (T := T) hm hm8 hTt hLt (by omega) t2 hs c13 (by rw [c18]; omega) hWt) (fun u hu => ?_)
        obtain ⟨F, F1, F2, hFF, hR⟩ := hu
        have hMu := hMt.tr (MF.ff hFF F1 F2)
        have hle := flF_le (f := f) (n := n) (m := m) (p := s) (T := T) (L := L)
        cases eo : flF f n m T L s with
        | none => exact r_86b (by omega) hm hm8 hMu rfl (hR.2 eo)
        | some x =>
          obtain ⟨r1, ⟨r2, r3⟩, r4⟩ := hR.1 x eo
          exact ih y (x.1 :: L) x.2 u (by simp; omega) (by simp; omega) (by simp; omega) (fun j hj => by rw [(hFF.1.2 0 (by decide)).1]; exact hTt j hj) hMu r4 r2 (hle x eo) r1 r3 (fun k k1 k2 => by rw [(hFF.1.1 k (by simp; omega)).2]; exact hWt k k1 k2)
    · rw [pif_neg cs]
      have hc : c = -1 := by rw [t4]; unfold pk1; rw [if_neg cs]
      exact ⟨fun _ => r_109 hm hm8 hMt (Rs.s rfl ⟨c13, hLt⟩), fun q => absurd hc q⟩
