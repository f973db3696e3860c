theorem vV_of {f : Nat → Int32} {n v : Nat} {k : Int32} {V : Int} (h : RngG f n (vS f n v) (v < n ∧ f v = 45) k V) : V = vV f n v := by
  unfold vV
  by_cases c : v < n ∧ f v = 45
  · rw [pif_pos c]; exact h.1 c
  · rw [pif_neg c]; exact h.2.1 c
def VlP (f : Nat → Int32) (n v F : Nat) (k : Int32) (st t : RS) : Prop := Fr [11, 13, 14, 17, 18] [6] st t ∧ (∀ j, j ≠ F → gL t 6 j = gL st 6 j) ∧ ((VlG f n v k ∧ gI t 13 = 0 ∧ Tx f n (rn dgt f n (vS f n v)) t ∧ (gL t 6 F).toInt = vV f n v ∧ gI t 18 = gI t 11) ∨ (¬ VlG f n v k ∧ gI t 13 ≠ 0))
theorem r_value57 {f : Nat → Int32} {n v F : Nat} {fl k l3 l4 : Int32} {st0 st : RS} (hfl : fl.toInt = F) (hF : F < 248) (h0 : Fr [11, 17] [] st0 st) (h : Tx f n (vS f n v) st) (hp : vS f n v ≤ n) (h13 : gI st 13 = 0) (hl : l4 ≠ 0 ↔ v < n ∧ f v = 45) : Ok (x9_value_57 fl k l3 l4 st) (VlP f n v F k st0) := by
  unfold x9_value_57
  rw [Ok_nam]
  refine (r_value69 f n (vS f n v) F fl k l3 l4 (gI st 11) st hfl hF h.2.2.2.1 hp h.2.2.1 fuel 0 0 0 st (by omega) (by unfold fuel; omega) (by omega) Fr.rf rfl h13 (by rw [Nat.add_zero]; exact h) (fun j hj => absurd hj (by omega)) (fun _ => rfl) (fun q => absurd rfl q)).mono (fun t ht => ?_)
  obtain ⟨t1, t2, t3⟩ := ht
  rw [propext hl] at t3
  refine ⟨(h0.d (by decide) (by decide)).tr (t1.d (by decide) (by decide)), fun j hj => by rw [t2 j hj, (h0.2 6 (by decide)).2], ?_⟩
  rcases t3 with ⟨⟨a1, V, a2, a3⟩, a4, a5, a6⟩ | ⟨a1, a2⟩
  · exact Or.inl ⟨⟨a1, V, a2⟩, a4, a5, by rw [a3]; exact vV_of a2, a6⟩
  · exact Or.inr ⟨a1, a2⟩
/-- value() -/
theorem r_value {f : Nat → Int32} {n p F : Nat} {fl k : Int32} {st : RS} (hfl : fl.toInt = F) (hF : F < 248) (h : Tx f n p st) (hp : p ≤ n) (h13 : gI st 13 = 0) : Ok (x9_value fl k st) (VlP f n (rn blk f n p) F k st) := by
  unfold x9_value
  refine Ok.call (r_next h) (fun c t ht => ?_)
  obtain ⟨t1, t2, t3, t4⟩ := ht
  have t1 : Fr [11, 17] [] st t := t1
  have t2 : Tx f n (rn blk f n p) t := t2
  obtain ⟨f1, f2, f3, f4, f5⟩ := id t2
  have e13 : gI t 13 = 0 := ((t1.1 13 (by decide)).1).trans h13
  have hle := rn_le blk f hp
  have en : (gI t 11).toNatClampNeg = rn blk f n p := by rw [t_nat, f3]; omega
  unfold x9_value_39 x9_value_40
  simp only [Ok_nam, Ok_pif, Ok_gd, f1, en]
  rw [t_le, f2, f3, t_in]
  have no : ¬ (rn blk f n p < n ∧ f (rn blk f n p) = 45) → Ok (x9_value_57 fl k (gI t 11) 0 t) (VlP f n (rn blk f n p) F k st) := fun q => by
    have es : vS f n (rn blk f n p) = rn blk f n p := by unfold vS; rw [pif_neg q]
    exact r_value57 hfl hF t1 (by rw [es]; exact t2) (by rw [es]; exact hle) e13 ⟨fun w => absurd rfl w, fun w => absurd w q⟩
  refine ⟨fun c1 => ⟨fun _ => no (fun q => by omega), fun w => absurd trivial w⟩, fun c1 => ⟨by omega, fun c2 => ⟨fun w => absurd w (by decide), fun _ => ?_⟩, fun c2 => ⟨fun _ => no (fun q => c2 q.2), fun w => absurd trivial w⟩⟩⟩
  have q : rn blk f n p < n ∧ f (rn blk f n p) = 45 := ⟨by omega, c2⟩
  have es : vS f n (rn blk f n p) = rn blk f n p + 1 := by unfold vS; rw [pif_pos q]
  exact r_value57 hfl hF (t1.sI (by decide)) (by rw [es]; exact t2.step q.1) (by rw [es]; omega) e13 ⟨fun _ => q, fun _ => by decide⟩
/-- textValue() -/
def TvP2 (f : Nat → Int32) (n v F : Nat) (st t : RS) : Prop := Fr [11, 13, 14, 17] [6, 7] st t ∧ (∀ j, j ≠ F → gL t 6 j = gL st 6 j) ∧ (∀ j, j < 12 * F ∨ 12 * F + 12 ≤ j → gF t 7 j = gF st 7 j) ∧ ((((v < n ∧ f v = 34) ∧ TxtG f n (v + 1)) ∧ gI t 13 = 0 ∧ Tx f n (rn qtb f n (v + 1) + 1) t ∧ (gL t 6 F).toInt = (rn qtb f n (v + 1) - (v + 1) : Nat) ∧ ∀ j, j < rn qtb f n (v + 1) - (v + 1) → gF t 7 (12 * F + j) = f (v + 1 + j)) ∨ (¬ ((v < n ∧ f v = 34) ∧ TxtG f n (v + 1)) ∧ gI t 13 ≠ 0))
theorem r_textValue {f : Nat → Int32} {n p F : Nat} {fl : Int32} {st : RS} (hfl : fl.toInt = F) (hF : F < 248) (h : Tx f n p st) (hp : p ≤ n) (h13 : gI st 13 = 0) : Ok (x9_textValue fl st) (TvP2 f n (rn blk f n p) F st) := by
  unfold x9_textValue
  refine Ok.callv (r_sign h (by decide)) (fun t ht => ?_)
  obtain ⟨t1, t2⟩ := ht
  have t6 : gL t 6 = gL st 6 := (t1.2 6 (by decide)).2
  have t7 : gF t 7 = gF st 7 := (t1.2 7 (by decide)).1
  have fln : fl.toNatClampNeg = F := by rw [t_nat]; omega
  rcases t2 with ⟨a1, a2, a3, a4⟩ | ⟨a1, a2, a3⟩
  · refine (r_textV8 f n (rn blk f n p + 1) F fl st hfl hF h.2.2.2.1 (by omega) fuel 0 0 t rfl (by omega) (by unfold fuel; omega) (by omega) (t1.d (by decide) (by decide)) t6 (fun j _ => by rw [t7]) (a3.trans h13) (by rw [Nat.add_zero]; exact a4) (fun j hj => absurd hj (by omega)) (fun j hj => absurd hj (by omega))).mono (fun u hu => ?_)
    obtain ⟨u1, u2, u3, u4⟩ := hu
    refine ⟨u1, u2, u3, ?_⟩
    rcases u4 with ⟨b1, b2⟩ | ⟨b1, b2⟩
    · exact Or.inl ⟨⟨⟨a1, a2⟩, b1⟩, b2⟩
    · exact Or.inr ⟨fun q => b1 q.2, b2⟩
  · rw [show fuel = (fuel - 1) + 1 from rfl, x9_textValue_8_s]
    unfold x9_textValue_127 x9_textValue_147
    have fin : ∀ u : RS, Fr [11, 13, 14, 17] [] t u → gI u 13 ≠ 0 → TvP2 f n (rn blk f n p) F st (sL (sI u 11 (gI u 11 + 1)) 6 (vp_updL (gL (sI u 11 (gI u 11 + 1)) 6) fl.toNatClampNeg (0 : Int32).toInt64)) := fun u hu h13' => by
      refine ⟨(((t1.tr hu).d (by decide) (by decide)).sI (by decide)).sL (by decide), fun j hj => ?_, fun j _ => ?_, Or.inr ⟨fun q => a1 q.1, h13'⟩⟩
      · show vp_updL (gL u 6) fl.toNatClampNeg (0 : Int32).toInt64 j = _
        unfold vp_updL
        rw [fln, if_neg hj, (hu.2 6 (by decide)).2, t6]
      · show gF u 7 j = _
        rw [(hu.2 7 (by decide)).1, t7]
    simp only [Ok_pif, Ok_nam, Ok_gd, Ok_some]
    refine ⟨fun q => absurd q a2, fun _ => ⟨fun _ => Ok.callv (r_fail (by decide)) (fun u hu => ?_), fun _ => ⟨by rw [t_in]; omega, fin t Fr.rf a2⟩⟩⟩
    simp only [Ok_nam, Ok_gd, Ok_some]
    exact ⟨by rw [t_in]; omega, fin u (hu.1.d (by decide) (by decide)) hu.2⟩
/-- from the default on: reference -/
def DfP (f : Nat → Int32) (n kd p F : Nat) (st t : RS) : Prop := Fr [11, 13, 14, 17, 18] [6, 7] st t ∧ (∀ j, j ≠ F → gL t 6 j = gL st 6 j) ∧ (∀ j, j < 12 * F ∨ 12 * F + 12 ≤ j → gF t 7 j = gF st 7 j) ∧ Rs (dfF f n kd p) (fun z => gI t 13 = 0 ∧ (Tx f n z.2 t ∧ (gI t 18).toInt < z.2) ∧ (gL t 6 F).toInt = z.1.1 ∧ (kd = 5 → 0 ≤ z.1.1 ∧ z.1.1 ≤ 12 ∧ ∀ j, j < z.1.1.toNat → gF t 7 (12 * F + j) = f (z.1.2 + j))) (gI t 13 ≠ 0)
theorem r_kinds161 {f : Nat → Int32} {n p F kd : Nat} {fl k : Int32} {st : RS} (hfl : fl.toInt = F) (hF : F < 248) (hk : k = Int32.ofNat kd) (hkd : kd ≤ 6) (h : Tx f n p st) (hp : p ≤ n) (h13 : gI st 13 = 0) (h18 : (gI st 18).toInt ≤ p) (h6 : gL st 6 F = 0) : Ok (x9_kinds_161 fl k st) (DfP f n kd p F st) := by
  unfold x9_kinds_161
  simp only [Ok_pif]
  refine ⟨fun _ => Ok.call (r_next h) (fun c t ht => ?_), fun q => absurd h13 q⟩
  obtain ⟨t1, t2, t3, t4⟩ := ht
  have t1 : Fr [11, 17] [] st t := t1
  have t2 : Tx f n (rn blk f n p) t := t2
  have t4 : c = pk1 f n (rn blk f n p) := t4
  have e13 : gI t 13 = 0 := ((t1.1 13 (by decide)).1).trans h13
  have e18 : gI t 18 = gI st 18 := (t1.1 18 (by decide)).1
  have hge := rn_ge blk f n p
  have hge2 := rn_ge blk f n (rn blk f n p + 1)
  have e6 : gL t 6 = gL st 6 := (t1.2 6 (by decide)).2
  have e7 : gF t 7 = gF st 7 := (t1.2 7 (by decide)).1
  have hle := rn_le blk f hp
  have kt : k.toInt = kd := by rw [hk]; exact t_nI (by omega)
  have k6 : (k = 6) ↔ kd = 6 := by rw [t_eq, kt, show (6 : Int32).toInt = 6 from rfl]; omega
  have k5 : (k = 5) ↔ kd = 5 := by rw [t_eq, kt, show (5 : Int32).toInt = 5 from rfl]; omega
  have no : ¬ (rn blk f n p < n ∧ f (rn blk f n p) = 61 ∧ kd ≠ 6) → Ok (x9_kinds_212 t) (DfP f n kd p F st) := fun q => by
    refine (r_212 ((0 : Int), 0) t2 e13).mono (fun u hu => ?_)
    obtain ⟨u1, u2⟩ := hu
    refine ⟨(t1.d (by decide) (by decide)).tr (u1.d (by decide) (by decide)), fun j _ => by rw [(u1.2 6 (by decide)).2, e6], fun j _ => by rw [(u1.2 7 (by decide)).1, e7], ?_⟩
    have ed : dfF f n kd p = clF f n (rn blk f n p) ((0 : Int), 0) := by unfold dfF; rw [pif_neg q, clF_blk]
    rw [ed]
    refine u2.mono (fun z _ hz => ⟨hz.2.1, ⟨hz.2.2.1, by rw [(u1.1 18 (by decide)).1, e18]; have := hz.2.2.2; omega⟩, ?_, fun _ => ?_⟩) id
    · rw [(u1.2 6 (by decide)).2, e6, h6, hz.1]; rfl
    · rw [hz.1]; exact ⟨by decide, by decide, fun j hj => absurd hj (by simp)⟩
  rw [Ok_pif, t4, pk1_eq (by decide)]
  refine ⟨fun c1 => ?_, fun c1 => no (fun q => c1 ⟨q.1, q.2.1⟩)⟩
  simp only [Ok_pif, Ok_nam]
  rw [k6, k5]
  refine ⟨fun c2 => no (fun q => q.2.2 c2), fun c2 => ?_⟩
  have hT2 := t2.step c1.1
  have hF2 : Fr [11, 17] [] st (sI t 11 (gI t 11 + 1)) := t1.sI (by decide)
  have hcond : rn blk f n p < n ∧ f (rn blk f n p) = 61 ∧ kd ≠ 6 := ⟨c1.1, c1.2, c2⟩
  refine ⟨fun c5 => ?_, fun c5 => ?_⟩
  · refine Ok.callv (r_textValue hfl hF hT2 (by omega) e13) (fun u hu => ?_)
    obtain ⟨u1, u2, u3, u4⟩ := hu
    have u1' : Fr [11, 13, 14, 17, 18] [6, 7] st u := (hF2.d (by decide) (by decide)).tr (u1.d (by decide) (by decide))
    have u2' : ∀ j, j ≠ F → gL u 6 j = gL st 6 j := fun j hj => by rw [u2 j hj]; show gL t 6 j = _; rw [e6]
    have u3' : ∀ j, j < 12 * F ∨ 12 * F + 12 ≤ j → gF u 7 j = gF st 7 j := fun j hj => by rw [u3 j hj]; show gF t 7 j = _; rw [e7]
    rcases u4 with ⟨b1, b2, b3, b4, b5⟩ | ⟨b1, b2⟩
    · refine (r_212 (((rn qtb f n (rn blk f n (rn blk f n p + 1) + 1) - (rn blk f n (rn blk f n p + 1) + 1) : Nat) : Int), rn blk f n (rn blk f n p + 1) + 1) b3 b2).mono (fun w hw => ?_)
      obtain ⟨w1, w2⟩ := hw
      refine ⟨u1'.tr (w1.d (by decide) (by decide)), fun j hj => by rw [(w1.2 6 (by decide)).2]; exact u2' j hj, fun j hj => by rw [(w1.2 7 (by decide)).1]; exact u3' j hj, ?_⟩
      unfold dfF
      rw [pif_pos hcond, nam_x, pif_pos c5, pif_pos b1]
      have hge3 := rn_ge qtb f n (rn blk f n (rn blk f n p + 1) + 1)
      refine w2.mono (fun z _ hz => ⟨hz.2.1, ⟨hz.2.2.1, by rw [(w1.1 18 (by decide)).1, (u1.1 18 (by decide)).1]; show (gI t 18).toInt < _; rw [e18]; have := hz.2.2.2; omega⟩, ?_, fun _ => ?_⟩) id
      · rw [(w1.2 6 (by decide)).2, b4, hz.1]
      · rw [hz.1, (w1.2 7 (by decide)).1]
        have := b1.2.1
        exact ⟨by omega, by omega, fun j hj => b5 j hj⟩
    · refine (r_212b b2).mono (fun w hw => ?_)
      subst hw
      refine ⟨u1', u2', u3', Rs.n ?_ b2⟩
      unfold dfF
      rw [pif_pos hcond, nam_x, pif_pos c5, pif_neg b1]
  · refine Ok.callv (r_value hfl hF hT2 (by omega) e13) (fun u hu => ?_)
    obtain ⟨u1, u2, u4⟩ := hu
    rw [hk] at u4
    have u1' : Fr [11, 13, 14, 17, 18] [6, 7] st u := (hF2.d (by decide) (by decide)).tr (u1.d (by decide) (by decide))
    have u2' : ∀ j, j ≠ F → gL u 6 j = gL st 6 j := fun j hj => by rw [u2 j hj]; show gL t 6 j = _; rw [e6]
    have u3' : ∀ j, j < 12 * F ∨ 12 * F + 12 ≤ j → gF u 7 j = gF st 7 j := fun j hj => by rw [(u1.2 7 (by decide)).1]; show gF t 7 j = _; rw [e7]
    rcases u4 with ⟨b1, b2, b3, b4, b18⟩ | ⟨b1, b2⟩
    · refine (r_212 (vV f n (rn blk f n (rn blk f n p + 1)), 0) b3 b2).mono (fun w hw => ?_)
      obtain ⟨w1, w2⟩ := hw
      refine ⟨u1'.tr (w1.d (by decide) (by decide)), fun j hj => by rw [(w1.2 6 (by decide)).2]; exact u2' j hj, fun j hj => by rw [(w1.2 7 (by decide)).1]; exact u3' j hj, ?_⟩
      unfold dfF
      rw [pif_pos hcond, nam_x, pif_neg c5, pif_pos b1]
      refine w2.mono (fun z _ hz => ⟨hz.2.1, ⟨hz.2.2.1, by rw [(w1.1 18 (by decide)).1, b18, b3.2.2.1]; have := hz.2.2.2; omega⟩, ?_, fun q => absurd q c5⟩) id
      rw [(w1.2 6 (by decide)).2, b4, hz.1]
    · refine (r_212b b2).mono (fun w hw => ?_)
      subst hw
      refine ⟨u1', u2', u3', Rs.n ?_ b2⟩
      unfold dfF
      rw [pif_pos hcond, nam_x, pif_neg c5, pif_neg b1]
