/-! the reference's calls on records, exactly -/
def RfK (r t : RS) : Prop := Kp r t ∧ gF t 28 = gF r 28 ∧ gF t 29 = gF r 29
def RfE (r t : RS) (o : Nat) (W : List Int32) : Prop := Kp r t ∧ RcL t o W ∧ RcO r t o
def RfR (r t : RS) (e : Option (Nat × List Int32)) : Prop := (e = none → RfK r t) ∧ ∀ o W, e = some (o, W) → RfE r t o W
def RfA (r : RS) (s : Int × Option (Nat × List Int32)) (q : Int32 × RS) : Prop := q.1.toInt = s.1 ∧ RfR r q.2 s.2
theorem RfA.n {r t : RS} {v : Int32} {k : Int} (h : v.toInt = k) (hK : RfK r t) : RfA r (k, none) (v, t) := ⟨h, ⟨fun _ => hK, fun o W q => (by cases q)⟩⟩
theorem RfA.e {r t : RS} {v : Int32} {k : Int} {o : Nat} {W : List Int32} (h : v.toInt = k) (hE : RfE r t o W) : RfA r (k, some (o, W)) (v, t) := ⟨h, ⟨fun q => (by cases q), fun o' W' q => (by cases q; exact hE)⟩⟩
theorem RfK.rf {r : RS} (h : RcI r) : RfK r r := ⟨Kp.rf h, rfl, rfl⟩
theorem RfK.rd {r t : RS} (h : RcI r) (hF : Fr rdI rdF r t) : RfK r t := ⟨hF.kp (by decide) (by decide) (h.fr (hF.2 29 (by decide)).1), (hF.2 28 (by decide)).1, (hF.2 29 (by decide)).1⟩
theorem RfK.fr {I F : List Nat} {r t u : RS} (h : RfK r t) (hF : Fr I F t u) (hI : (I.all (fun k => kpI.contains k)) = true) (hF' : (F.all (fun k => kpF.contains k)) = true) (h28 : 28 ∉ F) (h29 : 29 ∉ F) : RfK r u := ⟨⟨h.1.1.tr (hF.d hI hF'), h.1.2.fr (hF.2 29 h29).1⟩, ((hF.2 28 h28).1).trans h.2.1, ((hF.2 29 h29).1).trans h.2.2⟩
theorem Kp.ms {r t : RS} (h : Kp r t) : MkS r t := ⟨(h.1.2 1 (by decide)).1, (h.1.2 2 (by decide)).1, (h.1.2 3 (by decide)).1, (h.1.2 8 (by decide)).1⟩
theorem RfK.rb {r t : RS} (h : RfK r t) (j : Nat) : rbF t j = rbF r j ∧ rbN t j = rbN r j := by
  unfold rbF rbN
  rw [h.2.1, h.2.2]
  exact ⟨rfl, rfl⟩
theorem rbN_i {r : RS} {j : Nat} (h : RcI r) (hj : j < 4) : (gF r 29 j).toInt = rbN r j := by
  have := h j hj
  unfold rbN
  rw [t_nat]
  omega
theorem RcI.of {st u : RS} {r : Nat} {W : List Int32} (hR : RcI st) (h1 : RcL u r W) (h2 : RcO st u r) (hW : W.length ≤ 120) : RcI u := fun q hq => by
  by_cases c : q = r
  · rw [c, h1.1]
    omega
  · rw [(h2 q hq c).1]
    exact hR q hq
theorem RfK.e {I F : List Nat} {st u v : RS} {o : Nat} {W : List Int32} (h : RfK st u) (hF : Fr I F u v) (hI : (I.all (fun k => kpI.contains k)) = true) (hF' : (F.all (fun k => kpF.contains k)) = true) (hL : RcL v o W) (hO : RcO u v o) (hW : W.length ≤ 120) : RfE st v o W := ⟨⟨h.1.1.tr (hF.d hI hF'), RcI.of h.1.2 hL hO hW⟩, hL, hO.of h.2.1 h.2.2⟩
theorem m120 {r x : Int32} {i : Nat} (h1 : 0 ≤ r.toInt) (h2 : r.toInt < 4) (hx : x.toInt = i) (hi : i ≤ 120) : (120 * r + x).toInt = 120 * r.toInt + i ∧ (120 * r + x).toNatClampNeg = 120 * r.toNatClampNeg + i := by
  have em : (120 * r).toInt = 120 * r.toInt := by
    rw [t_mul (by show -2147483648 ≤ 120 * r.toInt; omega) (by show 120 * r.toInt < 2147483648; omega)]
    rfl
  have ea : (120 * r + x).toInt = 120 * r.toInt + i := by rw [t_add (by omega) (by omega), em, hx]
  refine ⟨ea, ?_⟩
  rw [t_nat (120 * r + x), ea, t_nat r]
  omega
theorem r_at2 {a i : Int32} {st : RS} (hR : RcI st) : Ok (x9_at a i st) (fun q => q = (pif (rcN a ∧ 0 ≤ i.toInt ∧ i.toInt < rbN st a.toNatClampNeg) (rbF st a.toNatClampNeg i.toNatClampNeg) (-1), st)) := by
  unfold x9_at
  refine Ok.bp r_isRecord (fun hr => ?_) (fun hr => ?_)
  case refine_2 => rw [pif_pos rfl, Ok_some, pif_neg (fun q => hr q.1)]
  have hl : a.toNatClampNeg < 4 := rcN.l hr
  have eN := rbN_i hR hl
  have hle := rbN_le hR hl
  rw [pif_neg (by decide)]
  simp only [Ok_pif, Ok_some, Ok_gd, t_in]
  rw [t_lt, t_le, show (0 : Int32).toInt = 0 from rfl, eN]
  refine ⟨fun c => by rw [pif_neg (fun q => by have := q.2; omega)], fun c => ⟨by omega, fun d => by rw [pif_neg (fun q => by have := q.2; omega)], fun d => ?_⟩⟩
  have hi : i.toInt = i.toNatClampNeg := by rw [t_nat]; omega
  obtain ⟨ea, en⟩ := m120 (x := i) hr.1 hr.2 hi (by omega)
  rw [ea, en, pif_pos ⟨hr, by omega, by omega⟩]
  exact ⟨by omega, rfl⟩
theorem r_clear2 {a : Int32} {st : RS} (hR : RcI st) : Ok (x9_clear a st) (fun q => pif (rcN a) (q.1.toInt = rbN st a.toNatClampNeg ∧ RfE st q.2 a.toNatClampNeg []) (q = (-1, st))) := by
  unfold x9_clear
  refine Ok.bp r_isRecord (fun hr => ?_) (fun hr => ?_)
  case refine_2 => rw [pif_pos rfl, Ok_some, pif_neg (show ¬ rcN a from hr)]
  have hl : a.toNatClampNeg < 4 := rcN.l hr
  simp only [pif_pos (show rcN a from hr)]
  rw [pif_neg (by decide)]
  simp only [Ok_gd, Ok_nam, Ok_some, t_in]
  have hL : RcL (sF st 29 (upd (gF st 29) a.toNatClampNeg 0)) a.toNatClampNeg [] := by
    refine ⟨?_, Hs.nil⟩
    show (upd (gF st 29) a.toNatClampNeg 0 a.toNatClampNeg).toInt = _
    rw [upd_eq rfl]
    rfl
  have hO : RcO st (sF st 29 (upd (gF st 29) a.toNatClampNeg 0)) a.toNatClampNeg := fun d hd hdr => by
    refine ⟨?_, fun k hk => rfl⟩
    show upd (gF st 29) a.toNatClampNeg 0 d = _
    rw [upd_ne hdr]
  exact ⟨by omega, by omega, rbN_i hR hl, (RfK.rf hR).e (I := []) (F := [29]) (Fr.rf.sF (by decide)) (by decide) (by decide) hL hO (by decide)⟩
theorem r_load20L (st0 : RS) (r : Int32) (hr : 0 ≤ r.toInt ∧ r.toInt < 4) (T : Nat) (hT : (gI st0 10).toInt = T) (h120 : T ≤ 120) : ∀ (z i : Nat) (x : Int32) (t : RS), x.toInt = i → i ≤ T → T - i < z → Fr [] [28] st0 t → (∀ j, j < i → gF t 28 (120 * r.toNatClampNeg + j) = gF st0 9 j) → (∀ d, d < 4 → d ≠ r.toNatClampNeg → ∀ k, k < 120 → gF t 28 (120 * d + k) = gF st0 28 (120 * d + k)) → Ok (x9_load_20 z r x t) (fun q => ∃ u, Fr [] [28, 29] st0 u ∧ RcL u r.toNatClampNeg (seg (gF st0 9) 0 T) ∧ RcO st0 u r.toNatClampNeg ∧ q.2 = sI u 10 0 ∧ q.1.toInt = T) := by
  intro z
  induction z with
  | zero => intro i x t a b c; omega
  | succ z ih =>
    intro i x t hx hi hz hF hB hO
    have e := inc (x := x) (by omega) (by omega)
    have e10 : (gI t 10).toInt = T := by rw [(hF.1 10 (by decide)).1]; exact hT
    have e29 : gF t 29 = gF st0 29 := (hF.2 29 (by decide)).1
    have e9 : gF t 9 = gF st0 9 := (hF.2 9 (by decide)).1
    have xn : x.toNatClampNeg = i := by rw [t_nat]; omega
    obtain ⟨ea, en⟩ := m120 hr.1 hr.2 hx (by omega)
    have hl : r.toNatClampNeg < 4 := rcN.l hr
    rw [x9_load_20_s]
    generalize x + 1 = x' at e ⊢
    simp only [Ok_pif, Ok_gd, Ok_nam, Ok_some, t_in, t_le, ea, en, e10, hx, xn]
    refine ⟨fun c => ⟨by omega, by omega, sF t 29 (upd (gF t 29) r.toNatClampNeg (gI t 10)), (hF.d rfl rfl).sF (by decide), ⟨?_, fun j hj => ?_⟩, fun d hd hdr => ⟨?_, fun k hk => ?_⟩, rfl, ?_⟩, fun c => ⟨by omega, by omega, ih (i + 1) x' _ (by omega) (by omega) (by omega) (hF.sF (by decide)) (fun j hj => ?_) (fun d hd hdr k hk => ?_)⟩⟩
    · show (upd (gF t 29) r.toNatClampNeg (gI t 10) r.toNatClampNeg).toInt = _
      rw [upd_eq rfl, e10, seg_len]
      omega
    · rw [seg_len] at hj
      rw [ix_seg (by omega), Nat.zero_add]
      exact hB j (by omega)
    · show upd (gF t 29) r.toNatClampNeg (gI t 10) d = _
      rw [upd_ne hdr, e29]
    · exact hO d hd hdr k hk
    · show (upd (gF t 29) r.toNatClampNeg (gI t 10) r.toNatClampNeg).toInt = _
      rw [upd_eq rfl, e10]
    · show upd (gF t 28) (120 * r.toNatClampNeg + i) (gF t 9 i) (120 * r.toNatClampNeg + j) = _
      by_cases q : j = i
      · rw [upd_eq (by omega), q, e9]
      · rw [upd_ne (by omega)]
        exact hB j (by omega)
    · show upd (gF t 28) (120 * r.toNatClampNeg + i) (gF t 9 i) (120 * d + k) = _
      rw [upd_ne (by omega)]
      exact hO d hd hdr k hk
theorem RI.tp {st : RS} (hI : RI st) : (gI st 10).toInt = tpK st := by
  have := hI.2.2.1
  unfold tpK
  rw [t_nat]
  omega
theorem r_load3 {a : Int32} {st : RS} (hI : RI st) : Ok (x9_load a st) (fun q => pif (rcN a ∧ tpK st ≤ 120) (∃ u, RfE st u a.toNatClampNeg (tpL st) ∧ q.2 = sI u 10 0 ∧ q.1.toInt = tpK st) (q = (-1, st))) := by
  have hT := hI.tp
  unfold x9_load
  refine Ok.bp r_isRecord (fun hr => ?_) (fun hr => ?_)
  case refine_2 => rw [pif_pos rfl, Ok_some, pif_neg (fun q => hr q.1)]
  rw [pif_neg (by decide)]
  by_cases c : tpK st ≤ 120
  case neg =>
    rw [pif_neg (by rw [t_le, hT, show (120 : Int32).toInt = 120 from rfl]; omega), Ok_some, pif_neg (fun q => c q.2)]
  simp only [pif_pos (show rcN a ∧ tpK st ≤ 120 from ⟨hr, c⟩)]
  rw [pif_pos (by rw [t_le, hT, show (120 : Int32).toInt = 120 from rfl]; omega)]
  refine (r_load20L st a hr (tpK st) hT c fuel 0 0 st rfl (by omega) (by unfold fuel; omega) Fr.rf (fun j hj => absurd hj (by omega)) (fun _ _ _ _ _ => rfl)).mono (fun q hq => ?_)
  obtain ⟨u, u1, u2, u3, u4, u5⟩ := hq
  exact ⟨u, (RfK.rf hI.2.1).e u1 (by decide) (by decide) u2 u3 (by rw [seg_len]; omega : (seg (gF st 9) 0 (tpK st)).length ≤ 120), u4, u5⟩
/-- isRead() and what it leaves -/
def TbS (st t : RS) (a N : Nat) (c : Nat → Nat) : Prop := (gI t 41).toInt = N ∧ N ≤ 30 ∧ TbC (rbF st a) (rbN st a) N (rbN st a) c ∧ ∀ i, i < N → (gF t 42 i).toInt = pNu (rbF st a) (c i) ∧ (gF t 43 i).toInt = c i ∧ (gF t 44 i).toInt = pFr (rbF st a) (c i) ∧ (gF t 45 i).toInt = pTo (rbF st a) (c i) (rbN st a)
theorem Ok.rdd {β : Type} {a m : Int32} {st : RS} {k : Int32 → RS → Option β} {P : β → Prop} (ha : rcN a) (hm : mkN st m) (hI : RI st) (hn : ∀ t, RfK st t → ¬ sdN st a m → Ok (k 0 t) P) (hy : ∀ t N c, RfK st t → Fr rdI rdF st t → (∀ i, i < rbN st a.toNatClampNeg → gF t 30 i = rbF st a.toNatClampNeg i) → sdN st a m → TbS st t a.toNatClampNeg N c → Ok (k 1 t) P) : Ok (bnd (x9_isRead a m st) k) P := by
  refine Ok.call (r_isRd ha.1 ha.2 hm hI.1 hI.2.1) (fun q t hq => ?_)
  obtain ⟨hF, hb, hq⟩ := hq
  have hF : Fr rdI rdF st t := hF
  have hK := RfK.rd hI.2.1 hF
  rcases hq with ⟨hq, hs⟩ | ⟨hq, hs, h41, h41', c, hc, hrow⟩
  · have hq : q = 0 := hq
    rw [hq]
    exact hn t hK hs
  · have hq : q = 1 := hq
    have h41 : 0 ≤ (gI t 41).toInt := h41
    have h41' : (gI t 41).toInt ≤ 30 := h41'
    rw [hq]
    exact hy t (gI t 41).toNatClampNeg c hK hF hb hs ⟨by rw [t_nat]; omega, by rw [t_nat]; omega, hc, hrow⟩
theorem r_read2 {a m : Int32} {st : RS} (hI : RI st) : Ok (x9_read a m st) (fun q => q.1.toInt = readS st a m ∧ RfK st q.2) := by
  unfold x9_read readS
  refine Ok.bp r_isRecord (fun hr => ?_) (fun hr => ?_)
  case refine_2 =>
    rw [pif_pos rfl, Ok_some, pif_neg (fun q => hr q.1)]
    exact ⟨rfl, RfK.rf hI.2.1⟩
  rw [pif_neg (by decide)]
  refine Ok.bp r_isMake (fun hm => ?_) (fun hm => ?_)
  case refine_2 =>
    rw [pif_pos rfl, Ok_some, pif_neg (fun q => hm q.2)]
    exact ⟨rfl, RfK.rf hI.2.1⟩
  rw [pif_neg (by decide)]
  simp only [pif_pos (show rcN a ∧ mkN st m from ⟨hr, hm⟩)]
  have h2 : ∀ t, RfK st t → Fr [15, 16] [] t (sI (sI t 15 (gI t 39)) 16 (gI (sI t 15 (gI t 39)) 40)) := fun t _ => (Fr.rf.sI (by decide)).sI (by decide)
  refine Ok.rdd hr hm hI (fun t hK hs => ?_) (fun t N c hK hF hb hs hT => ?_)
  · have hF2 := h2 t hK
    simp only [Ok_nam]
    generalize sI (sI t 15 (gI t 39)) 16 (gI (sI t 15 (gI t 39)) 40) = t2 at hF2 ⊢
    rw [pif_pos trivial, Ok_some, pif_neg hs]
    exact ⟨rfl, hK.fr hF2 (by decide) (by decide) (by decide) (by decide)⟩
  · have hF2 := h2 t hK
    simp only [Ok_nam]
    generalize sI (sI t 15 (gI t 39)) 16 (gI (sI t 15 (gI t 39)) 40) = t2 at hF2 ⊢
    have hK2 := hK.fr hF2 (by decide) (by decide) (by decide) (by decide)
    obtain ⟨t1, t2', hc, hrow⟩ := hT
    rw [pif_neg (by decide), pif_pos hs]
    refine (r_cnt53 t2 m (rbF st a.toNatClampNeg) (rbN st a.toNatClampNeg) N c hm.1 hm.2.1 (by rw [(hF2.1 41 (by decide)).1]; exact t1) t2' hc (fun i hi => by rw [(hF2.2 42 (by decide)).1]; exact (hrow i hi).1) fuel 0 (rbN st a.toNatClampNeg + 1) 0 0 0 rfl (Nat.zero_le _) (by unfold fuel; omega) (by rw [hc.1]; omega) rfl (Nat.zero_le _)).mono (fun q hq => ?_)
    rw [hc.1, Nat.zero_add, hK2.1.ms.all.1] at hq
    exact ⟨hq.2, by rw [hq.1]; exact hK2⟩
theorem r_kept2 {a m : Int32} {st : RS} (hI : RI st) : Ok (x9_kept a m st) (RfA st (keptS st a m)) := by
  unfold x9_kept keptS
  refine Ok.bp r_isRecord (fun hr => ?_) (fun hr => ?_)
  case refine_2 =>
    rw [pif_pos rfl, Ok_some, pif_neg (fun q => hr q.1)]
    exact RfA.n rfl (RfK.rf hI.2.1)
  rw [pif_neg (by decide)]
  refine Ok.bp r_isMake (fun hm => ?_) (fun hm => ?_)
  case refine_2 =>
    rw [pif_pos rfl, Ok_some, pif_neg (fun q => hm q.2)]
    exact RfA.n rfl (RfK.rf hI.2.1)
  rw [pif_neg (by decide), pif_pos (show rcN a ∧ mkN st m from ⟨hr, hm⟩)]
  refine Ok.rdd hr hm hI (fun t hK hs => ?_) (fun t N c hK hF hb hs hT => ?_)
  · rw [pif_pos rfl, Ok_some, pif_neg hs]
    exact RfA.n rfl hK
  · obtain ⟨t1, t2', hc, hrow⟩ := hT
    rw [pif_neg (by decide), pif_pos hs]
    refine (r_cnt31 t m (rbF st a.toNatClampNeg) (rbN st a.toNatClampNeg) N c hm.1 hm.2.1 t1 t2' hc (fun i hi => (hrow i hi).1) fuel 0 (rbN st a.toNatClampNeg + 1) 0 0 0 rfl (Nat.zero_le _) (by unfold fuel; omega) (by rw [hc.1]; omega) rfl (Nat.zero_le _)).mono (fun q hq => ?_)
    rw [hc.1, Nat.zero_add, hK.1.ms.all.1] at hq
    exact RfA.n (v := q.1) (t := q.2) hq.2 (by rw [hq.1]; exact hK)
theorem r_get2 {a m n w : Int32} {st : RS} (hI : RI st) : Ok (x9_get a m n w st) (fun q => RfK st q.2) := by
  have no : RfK st st := RfK.rf hI.2.1
  unfold x9_get
  refine Ok.bp r_isRecord (fun hr => ?_) (fun _ => ?_)
  case refine_2 => rw [pif_pos rfl, Ok_some]; exact no
  rw [pif_neg (by decide)]
  refine Ok.bp r_isMake (fun hm => ?_) (fun _ => ?_)
  case refine_2 => rw [pif_pos rfl, Ok_some]; exact no
  rw [pif_neg (by decide)]
  refine Ok.bp (r_has hm.1 hm.2.1) (fun hh => ?_) (fun _ => ?_)
  case refine_2 => rw [pif_pos rfl, Ok_some]; exact no
  rw [pif_neg (by decide)]
  have hn := hh.i
  have e31 := i31 hm.1 hm.2.1 (show 0 ≤ n.toInt by omega) hn.2
  have hm1 := hm.1
  have hm2 := hm.2.1
  have go : Ok (x9_get_35 a m n w st) (fun q => RfK st q.2) := by
    unfold x9_get_35
    refine Ok.rdd hr hm hI (fun t hK hs => ?_) (fun t N c hK hF hb hs hT => ?_)
    · rw [pif_pos rfl, Ok_some]
      exact hK
    · have c4 : (gI t 41).toInt ≤ 30 := by rw [hT.1]; have := hT.2.1; omega
      rw [pif_neg (by decide)]
      refine Ok.call (r_pieceOf c4) (fun k t2 hk => ?_)
      obtain ⟨hk1, hk2⟩ := hk
      have hk1 : t2 = t := hk1
      subst hk1
      simp only [Ok_pif, Ok_gd, Ok_some, t_in, e31]
      refine ⟨fun _ => ⟨fun _ => hK, fun _ => hK⟩, fun _ => ⟨fun _ => Ok.call r_plain (fun a b hab => ?_), fun hk0 => ?_⟩⟩
      · have hab : b = t2 := hab
        subst hab
        rw [Ok_some]
        exact hK
      · rcases hk2 with hk2 | hk2
        · exact absurd hk2 hk0
        have hk2 : 0 ≤ k.toInt ∧ k.toInt < (gI t2 41).toInt := hk2
        exact ⟨by omega, fun _ => ⟨by omega, hK⟩, fun _ => ⟨by omega, by omega, hK⟩⟩
  simp only [Ok_pif, Ok_some]
  exact ⟨fun _ => go, fun _ => ⟨fun _ => go, fun _ => no⟩⟩
theorem r_write2 {a m o : Int32} {st : RS} (hI : RI st) : Ok (x9_write a m o st) (RfA st (writeS st a m o)) := by
  unfold x9_write
  have no : ¬ (rcN a ∧ rcN o ∧ mkN st m) → RfA st (writeS st a m o) (((-1) : Int32), st) := fun q => by
    unfold writeS
    rw [pif_neg q]
    exact RfA.n rfl (RfK.rf hI.2.1)
  refine Ok.bp r_isRecord (fun hr => ?_) (fun hr => ?_)
  case refine_2 => rw [pif_pos rfl, Ok_some]; exact no (fun q => hr q.1)
  rw [pif_neg (by decide)]
  refine Ok.bp r_isRecord (fun ho => ?_) (fun ho => ?_)
  case refine_2 => rw [pif_pos rfl, Ok_some]; exact no (fun q => ho q.2.1)
  rw [pif_neg (by decide)]
  refine Ok.bp r_isMake (fun hm => ?_) (fun hm => ?_)
  case refine_2 => rw [pif_pos rfl, Ok_some]; exact no (fun q => hm q.2.2)
  rw [pif_neg (by decide)]
  unfold writeS
  rw [pif_pos (show rcN a ∧ rcN o ∧ mkN st m from ⟨hr, ho, hm⟩)]
  have ha4 : a.toNatClampNeg < 4 := rcN.l hr
  have ho4 : o.toNatClampNeg < 4 := rcN.l ho
  refine Ok.rdd hr hm hI (fun t hK hs => ?_) (fun t N c hK hF hb hs hT => ?_)
  · rw [pif_pos rfl, Ok_some, pif_neg hs]
    exact RfA.n rfl hK
  have hIt := hK.1.ri hI
  obtain ⟨l1, l2⟩ := hIt.2.1 _ ha4
  have en : (gF t 29 a.toNatClampNeg).toNatClampNeg = rbN st a.toNatClampNeg := by rw [hK.2.2]; rfl
  have hSt : Sd t (gF t 30) m.toNatClampNeg 0 (gF t 29 a.toNatClampNeg).toNatClampNeg 0 0 := by
    rw [en, hK.1.ms.sd]
    exact (Sd.eq (f := rbF st a.toNatClampNeg) (fun i _ hi => hb i hi)).mpr hs
  have eW : wrR t (gF t 30) m.toNatClampNeg 0 (gF t 29 a.toNatClampNeg).toNatClampNeg = wrR st (rbF st a.toNatClampNeg) m.toNatClampNeg 0 (rbN st a.toNatClampNeg) := by
    rw [en, hK.1.ms.wr]
    exact wrR_eq hs (Nat.zero_le _) (fun i _ hi => hb i hi)
  have hlen := wrR_len hI.1 hs hm.t (Nat.zero_le _) (rbN_le hI.2.1 ha4)
  have hle := rbN_le hI.2.1 ha4
  rw [pif_neg (by decide), pif_pos hs]
  simp only [Ok_gd, t_in]
  refine ⟨by omega, Ok.callv (r_wr l1 l2 (hK.1.mk hm) hIt.1 hSt) (fun u hu => ?_)⟩
  obtain ⟨hFu, hl⟩ := hu
  rw [eW] at hl
  refine Ok.callv (r_comesL ho.1 ho.2 hl (by omega)) (fun v hv => ?_)
  have hKu := hK.fr hFu (by decide) (by decide) (by decide) (by decide)
  simp only [Ok_gd, Ok_some, t_in]
  exact ⟨by omega, RfA.e hv.2.1.1 (hKu.e hv.1 (by decide) (by decide) hv.2.1 hv.2.2 (by omega))⟩
theorem r_open99L (st0 : RS) (o k many : Int32) (L : List Int32) (P : Nat) (ho : 0 ≤ o.toInt ∧ o.toInt < 4) (hm : many.toInt = L.length) (h120 : L.length ≤ 120) (hk : 0 < L.length → 0 ≤ k.toInt ∧ k.toInt < 30 ∧ (gF st0 44 k.toNatClampNeg).toInt = P ∧ P + L.length ≤ 120 ∧ ∀ i, i < L.length → gF st0 30 (P + i) = ix L i) : ∀ (z i : Nat) (x : Int32) (t : RS), x.toInt = i → i ≤ L.length → L.length - i < z → Fr [] [28] st0 t → (∀ j, j < i → gF t 28 (120 * o.toNatClampNeg + j) = ix L j) → (∀ d, d < 4 → d ≠ o.toNatClampNeg → ∀ k, k < 120 → gF t 28 (120 * d + k) = gF st0 28 (120 * d + k)) → Ok (x9_open_99 z o k many x t) (fun q => q.1.toInt = L.length ∧ Fr [] [28, 29] st0 q.2 ∧ RcL q.2 o.toNatClampNeg L ∧ RcO st0 q.2 o.toNatClampNeg) := by
  intro z
  induction z with
  | zero => intro i x t a b c; omega
  | succ z ih =>
    intro i x t hx hi hz hF hB hO
    have e := inc (x := x) (by omega) (by omega)
    have e44 : gF t 44 = gF st0 44 := (hF.2 44 (by decide)).1
    have e30 : gF t 30 = gF st0 30 := (hF.2 30 (by decide)).1
    have e29 : gF t 29 = gF st0 29 := (hF.2 29 (by decide)).1
    obtain ⟨ea, en⟩ := m120 ho.1 ho.2 hx (by omega)
    have hl : o.toNatClampNeg < 4 := rcN.l ho
    rw [x9_open_99_s]
    generalize x + 1 = x' at e ⊢
    simp only [Ok_pif, Ok_gd, Ok_nam, Ok_some, t_in, t_le, ea, en, hx, hm, e44, e30]
    refine ⟨fun c => ⟨by omega, trivial, (hF.d rfl rfl).sF (by decide), ⟨?_, fun j hj => ?_⟩, fun d hd hdr => ⟨?_, fun k hk => ?_⟩⟩, fun c => ?_⟩
    · show (upd (gF t 29) o.toNatClampNeg many o.toNatClampNeg).toInt = _
      rw [upd_eq rfl, hm]
    · exact hB j (by omega)
    · show upd (gF t 29) o.toNatClampNeg many d = _
      rw [upd_ne hdr, e29]
    · exact hO d hd hdr k hk
    · obtain ⟨h1, h2, h3, h4, h5⟩ := hk (by omega)
      have eb : (gF st0 44 k.toNatClampNeg + x).toInt = (P : Int) + i := by rw [t_add (by omega) (by omega), hx, h3]
      have ebn : (gF st0 44 k.toNatClampNeg + x).toNatClampNeg = P + i := by rw [t_nat (gF st0 44 k.toNatClampNeg + x), eb]; omega
      rw [eb, ebn]
      refine ⟨by omega, by omega, by omega, ih (i + 1) x' _ (by omega) (by omega) (by omega) (hF.sF (by decide)) (fun j hj => ?_) (fun d hd hdr k hk => ?_)⟩
      · show upd (gF t 28) (120 * o.toNatClampNeg + i) (gF st0 30 (P + i)) (120 * o.toNatClampNeg + j) = _
        by_cases q : j = i
        · rw [upd_eq (by omega), q]
          exact h5 i (by omega)
        · rw [upd_ne (by omega)]
          exact hB j (by omega)
      · show upd (gF t 28) (120 * o.toNatClampNeg + i) (gF st0 30 (P + i)) (120 * d + k) = _
        rw [upd_ne (by omega)]
        exact hO d hd hdr k hk
theorem r_open2 {a m n o : Int32} {st : RS} (hI : RI st) : Ok (x9_open a m n o st) (RfA st (openS st a m n o)) := by
  unfold x9_open
  have no : ¬ ((rcN a ∧ rcN o) ∧ mkN st m ∧ hasN st m.toNatClampNeg n.toNatClampNeg ∧ kdN st m.toNatClampNeg n.toNatClampNeg = 6) → RfA st (openS st a m n o) (((-1) : Int32), st) := fun q => by
    unfold openS
    rw [pif_neg q]
    exact RfA.n rfl (RfK.rf hI.2.1)
  refine Ok.bp r_isRecord (fun hr => ?_) (fun hr => ?_)
  case refine_2 => rw [pif_pos rfl, Ok_some]; exact no (fun q => hr q.1.1)
  rw [pif_neg (by decide)]
  refine Ok.bp r_isRecord (fun ho => ?_) (fun ho => ?_)
  case refine_2 => rw [pif_pos rfl, Ok_some]; exact no (fun q => ho q.1.2)
  rw [pif_neg (by decide)]
  refine Ok.bp r_isMake (fun hm => ?_) (fun hm => ?_)
  case refine_2 => rw [pif_pos rfl, Ok_some]; exact no (fun q => hm q.2.1)
  rw [pif_neg (by decide)]
  refine Ok.bp (r_has hm.1 hm.2.1) (fun hh => ?_) (fun hh => ?_)
  case refine_2 => rw [pif_pos rfl, Ok_some]; exact no (fun q => hh q.2.2.1)
  rw [pif_neg (by decide)]
  have hn := hh.i
  have e31 := i31 hm.1 hm.2.1 (show 0 ≤ n.toInt by omega) hn.2
  have e31n := i31n hm.1 hm.2.1 (show 0 ≤ n.toInt by omega) hn.2
  have hm1 := hm.1
  have hm2 := hm.2.1
  have ek : gF st 1 (31 * m.toNatClampNeg + n.toNatClampNeg) = kdN st m.toNatClampNeg n.toNatClampNeg := rfl
  rw [Ok_gd, t_in, e31, e31n, ek]
  refine ⟨by omega, ?_⟩
  by_cases c6 : kdN st m.toNatClampNeg n.toNatClampNeg = 6
  case neg => rw [pif_neg c6, Ok_some]; exact no (fun q => c6 q.2.2.2)
  unfold openS
  rw [pif_pos c6, pif_pos (show (rcN a ∧ rcN o) ∧ mkN st m ∧ hasN st m.toNatClampNeg n.toNatClampNeg ∧ kdN st m.toNatClampNeg n.toNatClampNeg = 6 from ⟨⟨hr, ho⟩, hm, hh, c6⟩)]
  have ha4 : a.toNatClampNeg < 4 := rcN.l hr
  have hle := rbN_le hI.2.1 ha4
  refine Ok.rdd hr hm hI (fun t hK hs => ?_) (fun t N c hK hF hb hs hT => ?_)
  · rw [pif_pos rfl, Ok_some, pif_neg hs]
    exact RfA.n rfl hK
  obtain ⟨t1, t2', hc, hrow⟩ := hT
  rw [pif_neg (by decide), pif_pos hs]
  have hni : n.toInt = n.toNatClampNeg := by rw [t_nat]; omega
  have fin : ∀ (k many : Int32) (P : Nat) (L : List Int32), many.toInt = L.length → L.length ≤ 120 → (0 < L.length → 0 ≤ k.toInt ∧ k.toInt < 30 ∧ (gF t 44 k.toNatClampNeg).toInt = P ∧ P + L.length ≤ 120 ∧ ∀ i, i < L.length → gF t 30 (P + i) = ix L i) → Ok (x9_open_94 o k many t) (RfA st ((L.length : Int), some (o.toNatClampNeg, L))) := fun k many P L h1 h2 h3 => by
    unfold x9_open_94
    refine (r_open99L t o k many L P ho h1 h2 h3 fuel 0 0 t rfl (Nat.zero_le _) (by unfold fuel; omega) Fr.rf (fun j hj => absurd hj (by omega)) (fun _ _ _ _ _ => rfl)).mono (fun q hq => ?_)
    exact RfA.e (v := q.1) (t := q.2) hq.1 (hK.e hq.2.1 (by decide) (by decide) hq.2.2.1 hq.2.2.2 h2)
  unfold x9_pieceOf
  refine Ok.call (r_fnd2 t n (rbF st a.toNatClampNeg) (rbN st a.toNatClampNeg) N n.toNatClampNeg c hni t1 t2' hc (fun i hi => (hrow i hi).1) fuel 0 (rbN st a.toNatClampNeg + 1) 0 rfl (Nat.zero_le _) (by unfold fuel; omega) (by rw [hc.1]; omega)) (fun k t3 hk => ?_)
  obtain ⟨hk1, hk2⟩ := hk
  have hk1 : t3 = t := hk1
  subst hk1
  rw [hc.1] at hk2
  rcases hk2 with ⟨e1, e2⟩ | ⟨j, hj, e1, e2⟩
  · have e1 : k = -1 := e1
    have eL : opL (rbF st a.toNatClampNeg) (rbN st a.toNatClampNeg) n.toNatClampNeg = [] := by unfold opL; rw [e2]; rfl
    rw [pif_pos e1, eL]
    exact fin k 0 0 [] rfl (by decide) (fun q => absurd q (by decide))
  · have e1 : k.toInt = j := e1
    have eL : opL (rbF st a.toNatClampNeg) (rbN st a.toNatClampNeg) n.toNatClampNeg = seg (rbF st a.toNatClampNeg) (pFr (rbF st a.toNatClampNeg) (c j)) (pTo (rbF st a.toNatClampNeg) (c j) (rbN st a.toNatClampNeg)) := by unfold opL; rw [e2]; rfl
    have kn : k.toNatClampNeg = j := by rw [t_nat]; omega
    have hne : ¬ k = -1 := fun q => by rw [q] at e1; have : (-1 : Int32).toInt = -1 := rfl; omega
    obtain ⟨-, -, r44, r45⟩ := hrow j hj
    have hlt := (hc.2.2 j hj).1.lt
    rw [pif_neg hne, eL]
    simp only [Ok_gd, t_in]
    refine ⟨by omega, by omega, ?_⟩
    rw [kn]
    have es : (gF t3 45 j - gF t3 44 j).toInt = (gF t3 45 j).toInt - (gF t3 44 j).toInt := t_sub (by omega) (by omega)
    refine fin k _ (pFr (rbF st a.toNatClampNeg) (c j)) _ (by rw [es, r44, r45, seg_len]; omega) (by rw [seg_len]; omega) (fun _ => ⟨by omega, by omega, by rw [kn]; exact r44, by rw [seg_len]; omega, fun i hi => ?_⟩)
    rw [seg_len] at hi
    rw [ix_seg hi]
    exact hb _ (by omega)
