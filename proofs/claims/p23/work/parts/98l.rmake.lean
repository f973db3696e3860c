theorem NumG.d {f : Nat → Int32} {n s : Nat} (h : NumG f n s) : s < n ∧ dgt (f s) := by
  refine Classical.byContradiction (fun q => ?_)
  have e : rn dgt f n s = s := rn_stop q
  obtain ⟨-, h2, -⟩ := h
  rw [e, Nat.sub_self] at h2
  exact absurd h2 (by show ¬ (1 : Int) ≤ 0; decide)
theorem r_42b {pm s0 : Int32} {st : RS} (h13 : gI st 13 ≠ 0) : Ok (x9_field_42 pm s0 st) (fun t => t = st) := by
  unfold x9_field_42
  simp only [Ok_pif, Ok_some]
  exact ⟨fun q => absurd q h13, fun _ => trivial⟩
theorem RfI.fr {f : Nat → Int32} {m : Nat} {T : Nat → Prop} {L : List FdT} {I : List Nat} {st t : RS} (h : RfI f m T L st) (hF : Fr I [0] st t) (hI : 27 ∉ I) : RfI f m T L t := by
  obtain ⟨h1, h2, h3⟩ := h
  refine ⟨fun j hj => ?_, fun x hx => ?_, ?_⟩
  · rw [(hF.2 8 (by decide)).1]; exact h1 j hj
  · have hx' := h2 x hx
    unfold FdE DfK at *
    rw [(hF.2 1 (by decide)).1, (hF.2 2 (by decide)).1, (hF.2 3 (by decide)).1, (hF.2 4 (by decide)).1, (hF.2 5 (by decide)).2, (hF.2 6 (by decide)).2, (hF.2 7 (by decide)).1]
    exact hx'
  · rw [(hF.1 27 hI).1]; exact h3
/-- the other makes' fields stay -/
def MF (m : Nat) (st t : RS) : Prop := Fr [11, 13, 14, 15, 16, 17, 18, 27] [1, 2, 3, 4, 5, 6, 7, 8] st t ∧ (∀ j, j < 31 * m ∨ 31 * m + 31 ≤ j → gF t 1 j = gF st 1 j ∧ gF t 2 j = gF st 2 j ∧ gF t 3 j = gF st 3 j ∧ gF t 4 j = gF st 4 j ∧ gL t 5 j = gL st 5 j ∧ gL t 6 j = gL st 6 j ∧ gF t 8 j = gF st 8 j) ∧ (∀ j, j < 372 * m ∨ 372 * m + 372 ≤ j → gF t 7 j = gF st 7 j)
theorem MF.tr {m : Nat} {a b c : RS} (h : MF m a b) (k : MF m b c) : MF m a c := ⟨h.1.tr k.1, fun j hj => by
  obtain ⟨a1, a2, a3, a4, a5, a6, a7⟩ := h.2.1 j hj
  obtain ⟨b1, b2, b3, b4, b5, b6, b7⟩ := k.2.1 j hj
  exact ⟨b1.trans a1, b2.trans a2, b3.trans a3, b4.trans a4, b5.trans a5, b6.trans a6, b7.trans a7⟩, fun j hj => (k.2.2 j hj).trans (h.2.2 j hj)⟩
theorem MF.of {m : Nat} {I : List Nat} {st t : RS} (h : Fr I [] st t) (hI : (I.all (fun k => [11, 13, 14, 15, 16, 17, 18, 27].contains k)) = true) : MF m st t := ⟨h.d hI (by decide), fun j _ => ⟨by rw [(h.2 1 (by simp)).1], by rw [(h.2 2 (by simp)).1], by rw [(h.2 3 (by simp)).1], by rw [(h.2 4 (by simp)).1], by rw [(h.2 5 (by simp)).2], by rw [(h.2 6 (by simp)).2], by rw [(h.2 8 (by simp)).1]⟩, fun j _ => by rw [(h.2 7 (by simp)).1]⟩
theorem MF.ff {m F : Nat} {st t : RS} (h : FF F st t) (h1 : 31 * m ≤ F) (h2 : F < 31 * m + 31) : MF m st t := ⟨h.1.d (by decide) (by decide), fun j hj => h.2.1 j (by omega), fun j hj => h.2.2 j (by omega)⟩
theorem r_fieldT {f : Nat → Int32} {n m p : Nat} {T : Nat → Prop} {L : List FdT} {pm : Int32} {st : RS} (hm : pm.toInt = m) (hm8 : m < 8) (hTo : ∀ j, j < 8 → (T j ↔ gF st 0 j ≠ 0)) (hL : RfI f m T L st) (hL10 : L.length < 10) (h : Tx f n p st) (hp : p ≤ n) (h13 : gI st 13 = 0) (h18 : (gI st 18).toInt < p) (hWd : WdI st) : Ok (x9_field pm st) (fun t => ∃ F, 31 * m ≤ F ∧ F < 31 * m + 31 ∧ FlP f n m T L (flF f n m T L p) F st t) := by
  unfold x9_field
  refine Ok.call (r_next h) (fun c t ht => ?_)
  obtain ⟨t1, t2, t3, t4⟩ := ht
  have t1 : Fr [11, 17] [] st t := t1
  have t2 : Tx f n (rn blk f n p) t := t2
  have hs := rn_le blk f hp
  have hsg := rn_ge blk f n p
  obtain ⟨s, es⟩ : ∃ s, s = rn blk f n p := ⟨_, rfl⟩
  have hid : rn blk f n s = s := by rw [es]; exact rn_idem blk f n p
  have ho : flF f n m T L p = pif (NumG f n s ∧ ¬ seenN L (dvN f s (rn dgt f n s - s)).toNat) (pif (rn dgt f n s < n ∧ ltr (f (rn dgt f n s))) none (tlF f n m T L (dvN f s (rn dgt f n s - s)).toNat (rn dgt f n s))) none := by rw [es]; rfl
  rw [← es] at t2 hs hsg
  clear es
  rw [ho]
  clear ho
  have c27 : gI t 27 = gI st 27 := (t1.1 27 (by decide)).1
  have c13 : gI t 13 = 0 := ((t1.1 13 (by decide)).1).trans h13
  have c18 : gI t 18 = gI st 18 := (t1.1 18 (by decide)).1
  have l27 := hL.2.2
  have n4 := h.2.2.2.1
  rw [Ok_pif]
  refine ⟨fun q => ?_, fun _ => ?_⟩
  · exfalso
    have q : gI t 27 = 10 := q
    rw [c27] at q
    rw [q] at l27
    have : (10 : Int32).toInt = 10 := rfl
    omega
  unfold x9_field_23
  rw [Ok_pif]
  refine ⟨fun _ => Ok.call (r_number t2 hs c13) (fun k u hu => ?_), fun q => absurd c13 q⟩
  obtain ⟨u1, u2, u3⟩ := hu
  rw [hid] at u3
  have u1 : Fr [11, 13, 14, 17, 18] [] t u := u1
  have hFu : Fr [11, 13, 14, 17, 18] [] st u := (t1.d (by decide) (by decide)).tr u1
  rcases u3 with ⟨⟨a1, a2, a3, a4⟩, b1, b2, b3, b4⟩ | ⟨a, b⟩
  · have b1 : gI u 13 = 0 := b1
    have b2 : k.toInt = dvN f s (rn dgt f n s - s) := b2
    have b3 : Tx f n (rn dgt f n s) u := b3
    have b4 : (gI u 18).toInt = rn dgt f n s := b4
    obtain ⟨num, en⟩ : ∃ num, num = (dvN f s (rn dgt f n s - s)).toNat := ⟨_, rfl⟩
    have n1 := a4.2.1
    have n2 := a4.2.2
    have hk : k.toInt = (num : Nat) := by rw [b2]; omega
    have hnum : 1 ≤ num ∧ num ≤ 30 := by omega
    rw [← en]
    clear en b2 n1 n2
    have he1 := rn_le dgt f hs
    have hf : (31 * pm + k).toInt = 31 * pm.toInt + k.toInt := i31 (by omega) (by omega) (by omega) (by omega)
    have hfl : (31 * pm + k).toInt = (31 * m + num : Nat) := by rw [hf]; omega
    have fln : (31 * pm + k).toNatClampNeg = 31 * m + num := by rw [t_nat]; omega
    have e8 : gF u 8 = gF st 8 := (hFu.2 8 (by simp)).1
    have hseen := hL.1 num (by omega)
    unfold x9_field_42
    simp only [Ok_pif, Ok_nam, Ok_gd, fln, e8]
    refine ⟨fun _ => ⟨by rw [t_in]; omega, fun c8 => ?_, fun c8 => ?_⟩, fun q => absurd b1 q⟩
    · have hns : ¬ seenN L num := fun q => hseen.mpr q c8
      refine (r_76 hm hm8 hTo hnum hfl hFu hL (by omega) hns b3 he1 b1 b4 (fun k k1 k2 => by rw [(hFu.1 k (by simp; omega)).2]; exact hWd k k1 k2)).mono (fun v hv => ⟨31 * m + num, by omega, by omega, ?_⟩)
      rw [pif_pos ⟨a4, hns⟩]
      exact hv
    · refine Ok.callv (r_fail (by decide)) (fun v hv => (r_76b (b3.fr (F := []) (hv.1.d (I' := [13, 14]) (by decide) (by decide)) (by decide) (by decide) (by decide)) he1 hv.2).mono (fun w hw => ⟨31 * m, by omega, by omega, ?_⟩))
      rw [pif_neg (fun q => q.2 (hseen.mp c8))]
      exact ⟨FF.of ((hFu.tr (hv.1.d (by decide) (by decide))).tr (hw.1.d (by decide) (by decide))) (by decide), Rs.n rfl hw.2⟩
  · refine (r_42b b).mono (fun v hv => ⟨31 * m, by omega, by omega, ?_⟩)
    rw [hv, pif_neg (fun q => a ⟨q.1.d.1, q.1.d.2, by rw [c18]; omega, q.1⟩)]
    exact ⟨FF.of hFu (by decide), Rs.n rfl b⟩
/-- what a make's text leaves -/
def MkP (m : Nat) (f : Nat → Int32) (T : Nat → Prop) (o : Option (List FdT)) (st : RS) (q : Int32 × RS) : Prop := ∃ t, MF m st t ∧ Rs o (fun L => RfI f m T L t ∧ q = (gI t 27, sF t 0 (upd (gF t 0) m (vp_nar .boolean 1)))) (q = (-1, t))
theorem r_109 {m : Nat} {f : Nat → Int32} {T : Nat → Prop} {o : Option (List FdT)} {pm : Int32} {st0 st : RS} (hm : pm.toInt = m) (hm8 : m < 8) (hF : MF m st0 st) (h : Rs o (fun L => gI st 13 = 0 ∧ RfI f m T L st) (gI st 13 ≠ 0)) : Ok (x9_make_109 pm st) (MkP m f T o st0) := by
  have pn : pm.toNatClampNeg = m := by rw [t_nat]; omega
  have h2 : Fr [15, 16] [] st (sI (sI st 15 (gI st 13)) 16 (gI (sI st 15 (gI st 13)) 14)) := (Fr.rf.sI (by decide)).sI (by decide)
  unfold x9_make_109
  simp only [Ok_pif, Ok_gd, Ok_nam, Ok_some, pn]
  refine ⟨fun c => ⟨by rw [t_in]; omega, _, hF.tr (MF.of h2 (by decide)), ?_⟩, fun c => ⟨_, hF.tr (MF.of h2 (by decide)), ?_⟩⟩
  · have c : gI st 13 = 0 := c
    exact ⟨fun L hL => ⟨(h.1 L hL).2.fr (I := [15, 16]) (h2.d (by decide) (by decide)) (by decide), rfl⟩, fun q => absurd c (h.2 q)⟩
  · have c : ¬ gI st 13 = 0 := c
    exact ⟨fun L hL => absurd (h.1 L hL).1 c, fun _ => rfl⟩
theorem r_86b {m : Nat} {f : Nat → Int32} {T : Nat → Prop} {o : Option (List FdT)} {pm : Int32} {st0 st : RS} {z : Nat} (hz : 1 ≤ z) (hm : pm.toInt = m) (hm8 : m < 8) (hF : MF m st0 st) (ho : o = none) (h : gI st 13 ≠ 0) : Ok (x9_make_86 z pm st) (MkP m f T o st0) := by
  obtain ⟨z, rfl⟩ : ∃ y, z = y + 1 := ⟨z - 1, by omega⟩
  rw [x9_make_86_s, Ok_pif]
  exact ⟨fun q => absurd q h, fun _ => r_109 hm hm8 hF (Rs.n ho h)⟩
theorem r_make86 {f : Nat → Int32} {n m : Nat} {T : Nat → Prop} {pm : Int32} (hm : pm.toInt = m) (hm8 : m < 8) (hB : ∀ j, j < n → 0 ≤ (f j).toInt) (st0 : RS) : ∀ (z y : Nat) (L : List FdT) (p : Nat) (st : RS), 12 ≤ z + L.length → 12 ≤ y + L.length → L.length ≤ 10 → (∀ j, j < 8 → (T j ↔ gF st 0 j ≠ 0)) → MF m st0 st → RfI f m T L st → Tx f n p st → p ≤ n → gI st 13 = 0 → (gI st 18).toInt < p → WdI st → Ok (x9_make_86 z pm st) (MkP m f T (mkF f n m T y L p) st0) := by
  intro z
  induction z with
  | zero => intro y L p st a b c; omega
  | succ z ih =>
    intro y L p st hz hy hLL hTo hMF hL h hp h13 h18 hWd
    obtain ⟨y, rfl⟩ : ∃ x, y = x + 1 := ⟨y - 1, by omega⟩
    have hs := rn_le blk f hp
    have hsg := rn_ge blk f n p
    have n4 := h.2.2.2.1
    have ho : mkF f n m T (y + 1) L p = pif (rn blk f n p < n) (pif (L.length = 10) none ((flF f n m T L (rn blk f n p)).bind (fun x => mkF f n m T y (x.1 :: L) x.2))) (some L) := rfl
    rw [ho, x9_make_86_s, Ok_pif]
    refine ⟨fun _ => Ok.call (r_next h) (fun c t ht => ?_), fun q => absurd h13 q⟩
    obtain ⟨t1, t2, t3, t4⟩ := ht
    have t1 : Fr [11, 17] [] st t := t1
    have t2 : Tx f n (rn blk f n p) t := t2
    have t4 : c = pk1 f n (rn blk f n p) := t4
    have c13 : gI t 13 = 0 := ((t1.1 13 (by decide)).1).trans h13
    have c18 : gI t 18 = gI st 18 := (t1.1 18 (by decide)).1
    have hMt : MF m st0 t := hMF.tr (MF.of t1 (by decide))
    have hLt : RfI f m T L t := hL.fr (I := [11, 17]) (t1.d (by decide) (by decide)) (by decide)
    have hTt : ∀ j, j < 8 → (T j ↔ gF t 0 j ≠ 0) := fun j hj => by rw [(t1.2 0 (by simp)).1]; exact hTo j hj
    have hWt : WdI t := fun k k1 k2 => by rw [(t1.1 k (by simp; omega)).2]; exact hWd k k1 k2
    generalize rn blk f n p = s at *
    rw [Ok_pif]
    by_cases cs : s < n
    · rw [pif_pos cs]
      have hc : c ≠ -1 := fun q => by
        rw [t4] at q
        unfold pk1 at q
        rw [if_pos cs] at q
        have := hB s cs
        rw [q] at this
        exact absurd this (by decide)
      refine ⟨fun q => absurd q hc, fun _ => ?_⟩
      by_cases cl : L.length = 10
      · rw [pif_pos cl]
        unfold x9_field
        have : Ok (bnd (x9_next t) (fun r_100 st_98 => pif ((gI st_98 27) = 10) (bnv (x9_fail 1 (gI st_98 17) st_98) (fun st_102 => x9_field_23 pm st_102)) (x9_field_23 pm st_98))) (fun u => Fr [11, 13, 14, 17] [] t u ∧ gI u 13 ≠ 0) := by
          refine Ok.call (r_next t2) (fun d u hu => ?_)
          have u1 : Fr [11, 17] [] t u := hu.1
          have e27 : gI u 27 = 10 := by
            rw [(u1.1 27 (by decide)).1, t_eq, hLt.2.2, cl]
            rfl
          rw [Ok_pif]
          refine ⟨fun _ => Ok.callv (r_fail (by decide)) (fun v hv => ?_), fun q => absurd e27 q⟩
          unfold x9_field_23
          rw [Ok_pif]
          refine ⟨fun q => absurd q hv.2, fun _ => (r_42b hv.2).mono (fun w hw => ?_)⟩
          rw [hw]
          exact ⟨(u1.d (by decide) (by decide)).tr (hv.1.d (by decide) (by decide)), hv.2⟩
        exact Ok.callv this (fun u hu => r_86b (by omega) hm hm8 (hMt.tr (MF.of hu.1 (by decide))) rfl hu.2)
      · rw [pif_neg cl]
        refine Ok.callv (r_fieldT (T := T) hm hm8 hTt hLt (by omega) t2 hs c13 (by rw [c18]; omega) hWt) (fun u hu => ?_)
        obtain ⟨F, F1, F2, hFF, hR⟩ := hu
        have hMu := hMt.tr (MF.ff hFF F1 F2)
        have hle := flF_le (f := f) (n := n) (m := m) (p := s) (T := T) (L := L)
        cases eo : flF f n m T L s with
        | none => exact r_86b (by omega) hm hm8 hMu rfl (hR.2 eo)
        | some x =>
          obtain ⟨r1, ⟨r2, r3⟩, r4⟩ := hR.1 x eo
          exact ih y (x.1 :: L) x.2 u (by simp; omega) (by simp; omega) (by simp; omega) (fun j hj => by rw [(hFF.1.2 0 (by decide)).1]; exact hTt j hj) hMu r4 r2 (hle x eo) r1 r3 (fun k k1 k2 => by rw [(hFF.1.1 k (by simp; omega)).2]; exact hWt k k1 k2)
    · rw [pif_neg cs]
      have hc : c = -1 := by rw [t4]; unfold pk1; rw [if_neg cs]
      exact ⟨fun _ => r_109 hm hm8 hMt (Rs.s rfl ⟨c13, hLt⟩), fun q => absurd hc q⟩
theorem r_make62 {m : Nat} {pm : Int32} (hm : pm.toInt = m) (hm8 : m < 8) (st0 : RS) {P : Int32 × RS → Prop} (hP : ∀ st, Fr [] [8] st0 st → (∀ j, j < 31 → gF st 8 (31 * m + j) = 0) → (∀ j, j < 31 * m ∨ 31 * m + 31 ≤ j → gF st 8 j = gF st0 8 j) → Ok (x9_make_86 fuel pm st) P) : ∀ (z i : Nat) (x : Int32) (st : RS), x.toInt = i → i ≤ 31 → 31 - i < z → Fr [] [8] st0 st → (∀ j, j < i → gF st 8 (31 * m + j) = 0) → (∀ j, j < 31 * m ∨ 31 * m + 31 ≤ j → gF st 8 j = gF st0 8 j) → Ok (x9_make_62 z pm x st) P := by
  intro z
  induction z with
  | zero => intro i x st a b c; omega
  | succ z ih =>
    intro i x st hx hi hz hF h1 h2
    have e := inc (x := x) (by omega) (by omega)
    rw [x9_make_62_s]
    generalize x + 1 = x' at e ⊢
    simp only [Ok_pif, Ok_gd, Ok_nam]
    rw [t_le, show (31 : Int32).toInt = 31 from rfl, hx]
    refine ⟨fun c => hP st hF (fun j hj => h1 j (by omega)) h2, fun c => ?_⟩
    have hf : (31 * pm + x).toInt = 31 * pm.toInt + x.toInt := i31 (by omega) (by omega) (by omega) (by omega)
    have hn : (31 * pm + x).toNatClampNeg = 31 * m + i := by rw [t_nat]; omega
    rw [hn]
    refine ⟨by rw [t_in]; omega, ih (i + 1) x' _ (by omega) (by omega) (by omega) (hF.sF (by decide)) (fun j hj => ?_) (fun j hj => ?_)⟩
    · show upd (gF st 8) (31 * m + i) _ (31 * m + j) = 0
      by_cases c2 : j = i
      · rw [upd_eq (by omega)]
        decide
      · rw [upd_ne (by omega)]
        exact h1 j (by omega)
    · show upd (gF st 8) (31 * m + i) _ j = _
      rw [upd_ne (by omega)]
      exact h2 j hj
/-- the text of a make, as it stands -/
def tpF (r : RS) : Nat → Int32 := gF r 9
def tpN (r : RS) : Nat := (gI r 10).toNatClampNeg
noncomputable def tpM (r : RS) (m : Nat) : Option (List FdT) := mkF (tpF r) (tpN r) m (fun j => gF r 0 j ≠ 0) 12 [] 0
/-- the other makes' fields -/
def OthR (r : RS) (m : Nat) (t : RS) : Prop := ∀ F, F < 31 * m ∨ 31 * m + 31 ≤ F → gF t 1 F = gF r 1 F ∧ gF t 2 F = gF r 2 F ∧ gF t 3 F = gF r 3 F ∧ gF t 4 F = gF r 4 F ∧ gL t 6 F = gL r 6 F ∧ gF t 8 F = gF r 8 F ∧ ∀ k, k < 12 → gF t 7 (12 * F + k) = gF r 7 (12 * F + k)
/-- what stays: the records, the number by which a walk broke -/
def KeR (r t : RS) : Prop := gF t 28 = gF r 28 ∧ gF t 29 = gF r 29 ∧ gI t 59 = gI r 59
/-- what make leaves -/
def MkR (r : RS) (m : Nat) (q : Int32 × RS) : Prop := RI q.2 ∧ WdI q.2 ∧ gI q.2 10 = 0 ∧ (((∀ j, j < 8 → j ≠ m → gF q.2 0 j = gF r 0 j) ∧ KeR r q.2) ∧ OthR r m q.2) ∧ Rs (tpM r m) (fun L => gF q.2 0 m ≠ 0 ∧ q.1.toInt = L.length ∧ RfI (tpF r) m (fun j => gF r 0 j ≠ 0) L q.2) (gF q.2 0 m = 0 ∧ q.1 = -1)
theorem r_make {r : RS} {pm : Int32} (h : RI r) (hW : WdI r) (hB : ∀ j : Nat, (j : Int) < (gI r 10).toInt → 0 ≤ (gF r 9 j).toInt) : Ok (x9_make pm r) (fun q => pif (0 ≤ pm.toInt ∧ pm.toInt < 8 ∧ gF r 0 pm.toNatClampNeg = 0) (MkR r pm.toNatClampNeg q) (q = (-2, r))) := by
  obtain ⟨hMk, hRc, h10, h10'⟩ := h
  unfold x9_make
  simp only [Ok_pif, Ok_gd, Ok_nam, Ok_some]
  rw [t_lt, t_le, t_in, show (0 : Int32).toInt = 0 from rfl, show (8 : Int32).toInt = 8 from rfl]
  refine ⟨fun c => by rw [pif_neg (fun q => by omega)]; trivial, fun c1 => ⟨fun c => by rw [pif_neg (fun q => by omega)]; trivial, fun c2 => ⟨by omega, fun c0 => ?_, fun c0 => by rw [pif_neg (fun q => c0 q.2.2)]; trivial⟩⟩⟩
  have cc : (0 ≤ pm.toInt ∧ pm.toInt < 8 ∧ gF r 0 pm.toNatClampNeg = 0) := ⟨by omega, by omega, c0⟩
  simp only [pif_pos cc]
  obtain ⟨m, em⟩ : ∃ m, m = pm.toNatClampNeg := ⟨_, rfl⟩
  have hm : pm.toInt = m := by rw [em, t_nat]; omega
  have hm8 : m < 8 := by omega
  rw [← em] at c0 ⊢
  obtain ⟨st0, e0⟩ : ∃ s, s = sI (sI (sI (sI (sI (sI (sI r 11 0) 12 (gI (sI r 11 0) 10)) 10 0) 13 0) 14 (-1)) 18 (-1)) 27 0 := ⟨_, rfl⟩
  have hF0 : Fr [10, 11, 12, 13, 14, 18, 27] [] r st0 := by
    rw [e0]
    exact ((((((Fr.rf.sI (by decide)).sI (by decide)).sI (by decide)).sI (by decide)).sI (by decide)).sI (by decide)).sI (by decide)
  have i10 : gI st0 10 = 0 := by rw [e0]; rfl
  have i11 : gI st0 11 = 0 := by rw [e0]; rfl
  have i12 : gI st0 12 = gI r 10 := by rw [e0]; rfl
  have i13 : gI st0 13 = 0 := by rw [e0]; rfl
  have i18 : gI st0 18 = -1 := by rw [e0]; rfl
  have i27 : gI st0 27 = 0 := by rw [e0]; rfl
  rw [← e0]
  clear e0
  have hn : ((tpN r : Nat) : Int) = (gI r 10).toInt := by unfold tpN; rw [t_nat]; omega
  refine r_make62 hm hm8 st0 (fun st hF h0 hO => ?_) fuel 0 0 st0 rfl (by omega) (by unfold fuel; omega) Fr.rf (fun j hj => absurd hj (by omega)) (fun j _ => rfl)
  have e9 : gF st 9 = tpF r := ((hF.2 9 (by decide)).1).trans (hF0.2 9 (by simp)).1
  have e0 : gF st 0 = gF r 0 := ((hF.2 0 (by decide)).1).trans (hF0.2 0 (by simp)).1
  have hMF0 : Fr [10, 11, 12, 13, 14, 18, 27] [8] r st := (hF0.d (by decide) (by decide)).tr (hF.d (by decide) (by decide))
  refine (r_make86 (f := tpF r) (n := tpN r) (T := fun j => gF r 0 j ≠ 0) hm hm8 (fun j hj => hB j (by omega)) st fuel 12 [] 0 st (by unfold fuel; simp) (by simp) (by simp) (fun j hj => by rw [e0]) (MF.of (I := []) Fr.rf (by decide)) ⟨fun j hj => ⟨fun q => absurd (h0 j hj) q, fun q => by obtain ⟨x, hx, -⟩ := q; cases hx⟩, fun x hx => (by cases hx), ?_⟩ ⟨e9, ?_, ?_, by omega, by omega⟩ (by omega) ?_ ?_ ?_).mono (fun q hq => ?_)
  · rw [(hF.1 27 (by simp)).1, i27]; rfl
  · rw [(hF.1 12 (by simp)).1, i12]; omega
  · rw [(hF.1 11 (by simp)).1, i11]; rfl
  · rw [(hF.1 13 (by simp)).1, i13]
  · rw [(hF.1 18 (by simp)).1, i18]; decide
  · exact fun k k1 k2 => by rw [(hMF0.1 k (by simp; omega)).2]; exact hW k k1 k2
  obtain ⟨t, hM, hR⟩ := hq
  have t10 : gI t 10 = 0 := by rw [(hM.1.1 10 (by decide)).1, (hF.1 10 (by simp)).1, i10]
  have t0 : gF t 0 = gF r 0 := ((hM.1.2 0 (by decide)).1).trans e0
  have tW : WdI t := fun k k1 k2 => by rw [(hM.1.1 k (by simp; omega)).2, (hMF0.1 k (by simp; omega)).2]; exact hW k k1 k2
  have tR : RcI t := hRc.fr (((hM.1.2 29 (by decide)).1).trans (hMF0.2 29 (by decide)).1)
  have tK : KeR r t := ⟨((hM.1.2 28 (by decide)).1).trans (hMF0.2 28 (by decide)).1, ((hM.1.2 29 (by decide)).1).trans (hMF0.2 29 (by decide)).1, ((hM.1.1 59 (by decide)).1).trans (hMF0.1 59 (by decide)).1⟩
  -- the other makes
  have oth : ∀ a b, a < 8 → a ≠ m → b ≤ 30 → gF t 1 (31 * a + b) = gF r 1 (31 * a + b) ∧ gF t 3 (31 * a + b) = gF r 3 (31 * a + b) ∧ gL t 6 (31 * a + b) = gL r 6 (31 * a + b) ∧ gF t 8 (31 * a + b) = gF r 8 (31 * a + b) := fun a b ha hab hb => by
    obtain ⟨a1, a2, a3, a4, a5, a6, a7⟩ := hM.2.1 (31 * a + b) (by omega)
    rw [a1, a3, a6, a7, (hMF0.2 1 (by decide)).1, (hMF0.2 3 (by decide)).1, (hMF0.2 6 (by decide)).2, hO _ (by omega), (hF0.2 8 (by simp)).1]
    exact ⟨rfl, rfl, rfl, rfl⟩
  have hoth : OthR r m t := fun F hF => by
    obtain ⟨a1, a2, a3, a4, a5, a6, a7⟩ := hM.2.1 F hF
    exact ⟨by rw [a1, (hMF0.2 1 (by decide)).1], by rw [a2, (hMF0.2 2 (by decide)).1], by rw [a3, (hMF0.2 3 (by decide)).1], by rw [a4, (hMF0.2 4 (by decide)).1], by rw [a6, (hMF0.2 6 (by decide)).2], by rw [a7, hO F hF, (hF0.2 8 (by simp)).1], fun k hk => by rw [hM.2.2 (12 * F + k) (by omega), (hMF0.2 7 (by decide)).1]⟩
  have eT : tpM r m = mkF (tpF r) (tpN r) m (fun j => gF r 0 j ≠ 0) 12 [] 0 := rfl
  rw [← eT] at hR
  cases eo : tpM r m with
  | none =>
    have hq := hR.2 eo
    rw [hq]
    refine ⟨⟨fun a b ha h1 h2 => ?_, tR, by rw [t10]; decide, by rw [t10]; decide⟩, tW, t10, ⟨⟨fun j _ _ => by rw [t0], tK⟩, hoth⟩, Rs.n eo ⟨by rw [t0]; exact c0, rfl⟩⟩
    have h1 : gF t 0 a ≠ 0 := h1
    rw [t0] at h1
    have ham : a ≠ m := fun q => h1 (by rw [q]; exact c0)
    obtain ⟨k1, k2, k3, k4⟩ := h2
    obtain ⟨o1, o2, o3, o4⟩ := oth a b ha ham k2
    show (gF t 1 (31 * a + b)).toInt ≤ 6 ∧ (gF t 1 (31 * a + b) = 6 → 0 ≤ (gF t 3 (31 * a + b)).toInt ∧ (gF t 3 (31 * a + b)).toInt < a ∧ gF t 0 (gF t 3 (31 * a + b)).toNatClampNeg ≠ 0) ∧ (gF t 1 (31 * a + b) = 5 → 0 ≤ (gL t 6 (31 * a + b)).toInt ∧ (gL t 6 (31 * a + b)).toInt ≤ 12)
    rw [o1, o2, o3, t0]
    exact hMk a b ha h1 ⟨k1, k2, by rw [← o4]; exact k3, by rw [← o1]; exact k4⟩
  | some L =>
    obtain ⟨hL, hq⟩ := hR.1 L eo
    rw [hq]
    have hu : ∀ j, j ≠ m → upd (gF t 0) m (vp_nar .boolean 1) j = gF r 0 j := fun j hj => by rw [upd_ne hj, t0]
    have hum : upd (gF t 0) m (vp_nar .boolean 1) m ≠ 0 := by rw [upd_eq rfl]; exact nar1
    refine ⟨⟨fun a b ha h1 h2 => ?_, tR.fr rfl, by show 0 ≤ (gI t 10).toInt; rw [t10]; decide, by show (gI t 10).toInt ≤ 400; rw [t10]; decide⟩, tW, t10, ⟨⟨fun j _ hj => hu j hj, tK⟩, fun F hF => hoth F hF⟩, Rs.s eo ⟨hum, hL.2.2, hL.fr (I := []) (Fr.rf.sF (by decide)) (by decide)⟩⟩
    show (gF t 1 (31 * a + b)).toInt ≤ 6 ∧ (gF t 1 (31 * a + b) = 6 → 0 ≤ (gF t 3 (31 * a + b)).toInt ∧ (gF t 3 (31 * a + b)).toInt < a ∧ upd (gF t 0) m (vp_nar .boolean 1) (gF t 3 (31 * a + b)).toNatClampNeg ≠ 0) ∧ (gF t 1 (31 * a + b) = 5 → 0 ≤ (gL t 6 (31 * a + b)).toInt ∧ (gL t 6 (31 * a + b)).toInt ≤ 12)
    have keep : ∀ j, gF r 0 j ≠ 0 → upd (gF t 0) m (vp_nar .boolean 1) j ≠ 0 := fun j hj => by
      by_cases c : j = m
      · rw [c]; exact hum
      · rw [hu j c]; exact hj
    by_cases ham : a = m
    · subst ham
      obtain ⟨k1, k2, k3, k4⟩ := h2
      have k3 : gF t 8 (31 * a + b) ≠ 0 := k3
      have k4 : gF t 1 (31 * a + b) ≠ 0 := k4
      obtain ⟨x, hx, hxb⟩ := (hL.1 b (by omega)).mp k3
      obtain ⟨d1, d2, d3, d4, d5, d6, d7, d8, d9⟩ := hL.2.1 x hx
      rw [hxb] at d3 d9
      have hk0 : fKd x ≠ 0 := fun q => k4 (by rw [t_eq, d3, q]; rfl)
      obtain ⟨e1, e2, e3, e4⟩ := d9 hk0
      refine ⟨by omega, fun q => ?_, fun q => ?_⟩
      · have q6 : fKd x = 6 := by
          rw [q] at d3
          have : (6 : Int32).toInt = 6 := rfl
          omega
        obtain ⟨f1, f2, f3⟩ := e2 q6
        refine ⟨by omega, by omega, keep _ ?_⟩
        rw [t_nat, e1]
        exact f3
      · have q5 : fKd x = 5 := by
          rw [q] at d3
          have : (5 : Int32).toInt = 5 := rfl
          omega
        obtain ⟨f1, f2, f3⟩ := e4 q5
        rw [e3]
        exact ⟨f1, f2⟩
    · have h1 : upd (gF t 0) m (vp_nar .boolean 1) a ≠ 0 := h1
      rw [hu a ham] at h1
      obtain ⟨k1, k2, k3, k4⟩ := h2
      have k3 : gF t 8 (31 * a + b) ≠ 0 := k3
      have k4 : gF t 1 (31 * a + b) ≠ 0 := k4
      obtain ⟨o1, o2, o3, o4⟩ := oth a b ha ham k2
      obtain ⟨p1, p2, p3⟩ := hMk a b ha h1 ⟨k1, k2, by rw [← o4]; exact k3, by rw [← o1]; exact k4⟩
      rw [o1, o2, o3]
      exact ⟨p1, fun q => ⟨(p2 q).1, (p2 q).2.1, keep _ (p2 q).2.2⟩, p3⟩
