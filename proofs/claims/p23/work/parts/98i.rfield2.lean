def FlP (f : Nat → Int32) (n m : Nat) (T : Nat → Prop) (L : List FdT) (o : Option (FdT × Nat)) (F : Nat) (st0 t : RS) : Prop := FF F st0 t ∧ Rs o (fun z => gI t 13 = 0 ∧ (Tx f n z.2 t ∧ (gI t 18).toInt < z.2) ∧ RfI f m T (z.1 :: L) t) (gI t 13 ≠ 0)
theorem nar1 : vp_nar .boolean 1 ≠ 0 := by decide
theorem r_345 {f : Nat → Int32} {n m num w e2 k0 kd : Nat} {T : Nat → Prop} {L : List FdT} {pm fl l6 k : Int32} {l4 : Int64} {st0 st : RS} (hm : pm.toInt = m) (hm8 : m < 8) (hTo : ∀ j, j < 8 → (T j ↔ gF st0 0 j ≠ 0)) (hnum : 1 ≤ num ∧ num ≤ 30) (hfl : fl.toInt = (31 * m + num : Nat)) (hF0 : FF (31 * m + num) st0 st) (h27 : gI st 27 = gI st0 27) (hL : RfI f m T L st0) (hL10 : L.length ≤ 10) (hns : ¬ seenN L num) (hw : e2 - w ≤ 8) (hwl : ∀ j, j < e2 - w → ltr (f (w + j))) (h4 : l4 = pkv f w (e2 - w)) (h6 : l6.toInt = (e2 - w : Nat)) (h : Tx f n k0 st) (hk0 : k0 ≤ n) (h13 : gI st 13 = 0) (h18 : (gI st 18).toInt ≠ k0) (h26 : gJ st 26 = 257) (hk : k = Int32.ofNat kd) (hkd : 1 ≤ kd ∧ kd ≤ 6) : Ok (x9_field_345 pm fl l4 l6 k st) (FlP f n m T L ((kkF f n m T kd (rn ltr f n k0)).map (fun z => ((num, w, e2, z.1), z.2))) (31 * m + num) st0) := by
  have fln : fl.toNatClampNeg = 31 * m + num := by rw [t_nat]; omega
  have flin : vp_in fl 248 := by rw [t_in]; omega
  unfold x9_field_345
  rw [Ok_pif]
  refine ⟨fun _ => Ok.callv (r_takes h hk0) (fun u hu => ?_), fun q => absurd h13 q⟩
  obtain ⟨u1, u2, u3, u4, u5⟩ := hu
  have c13 : gI u 13 = 0 := (u5 h18).trans h13
  have F1 : FF (31 * m + num) st0 u := hF0.tr (FF.of u1 (by decide))
  have e0 : gF u 0 = gF st0 0 := (F1.1.2 0 (by decide)).1
  have e27 : gI u 27 = gI st0 27 := ((u1.1 27 (by decide)).1).trans h27
  refine Ok.callv (r_kinds (T := T) hm hm8 (fun j hj => by rw [e0]; exact hTo j hj) hfl (by omega) hk hkd.2 u2 (rn_le ltr f hk0) c13 u3 (((u1.1 26 (by decide)).2).trans h26)) (fun v hv => ?_)
  obtain ⟨v1, v2⟩ := hv
  have F2 : FF (31 * m + num) st0 v := F1.tr (FF.k v1)
  cases hd : kkF f n m T kd (rn ltr f n k0) with
  | none =>
    have b := v2.2 hd
    simp only [Ok_pif, Ok_some]
    exact ⟨fun q => absurd q b, fun _ => ⟨F2, Rs.n rfl b⟩⟩
  | some z =>
    obtain ⟨z1, z2, z3, z4, z5, z6, z7⟩ := v2.1 z hd
    simp only [Ok_pif, Ok_gd, Ok_nam, Ok_some, fln]
    refine ⟨fun _ => ⟨flin, flin, flin, flin, ?_, Rs.s rfl ⟨z2, ⟨?_, ?_⟩, ?_⟩⟩, fun q => absurd z2 q⟩
    · exact ((((F2.tr FF.s8).tr FF.s1).tr FF.s4).tr FF.s5).tr FF.i27
    · exact z3.1.fr (((((Fr.rf.sF (I := [27]) (F := [1, 4, 5, 8]) (by decide)).sF (by decide)).sF (by decide)).sL (by decide)).sI (by decide)) (by decide) (by decide) (by decide)
    · exact z3.2
    · have ev27 : gI v 27 = gI st0 27 := ((v1.1.1 27 (by decide)).1).trans e27
      have h27' := hL.2.2
      refine RfI.add (x := (num, w, e2, z.1)) hL (((((F2.tr FF.s8).tr FF.s1).tr FF.s4).tr FF.s5).tr FF.i27) ?_ hns ?_ ?_
      · refine ⟨hnum, ?_, ?_, z4, ?_, hw, hwl, ?_, fun _ => ⟨z5, ?_, ?_⟩⟩
        · show z.1.1 ≤ 6
          rw [z1]; exact hkd.2
        · show (upd (gF v 1) (31 * m + num) k (31 * m + num)).toInt = ((z.1.1 : Nat) : Int)
          rw [upd_eq rfl, z1, hk]
          exact t_nI (by omega)
        · show (upd (gF v 4) (31 * m + num) l6 (31 * m + num)).toInt = _
          rw [upd_eq rfl]
          exact h6
        · show vp_updL (gL v 5) (31 * m + num) l4 (31 * m + num) = _
          unfold vp_updL
          rw [if_pos rfl]
          exact h4
        · show z.1.1 = 6 → _
          rw [z1]; exact z6
        · show DfK f z.1.1 (31 * m + num) _ _ _
          rw [z1]; exact z7
      · show upd (gF v 8) (31 * m + num) (vp_nar .boolean 1) (31 * m + num) ≠ 0
        rw [upd_eq rfl]
        exact nar1
      · show (gI v 27 + 1).toInt = _
        rw [ev27]
        exact inc (by omega) (by omega)
theorem r_345b {pm fl l6 k : Int32} {l4 : Int64} {st : RS} (h13 : gI st 13 ≠ 0) : Ok (x9_field_345 pm fl l4 l6 k st) (fun t => t = st) := by
  unfold x9_field_345
  simp only [Ok_pif, Ok_some]
  exact ⟨fun q => absurd q h13, fun _ => trivial⟩
theorem r_297b {pm fl : Int32} {l4 : Int64} {st : RS} (h13 : gI st 13 ≠ 0) : Ok (x9_field_297 pm fl l4 st) (fun t => t = st) := by
  unfold x9_field_297
  simp only [Ok_pif, Ok_some]
  exact ⟨fun q => absurd q h13, fun _ => trivial⟩
theorem r_297 {f : Nat → Int32} {n m num w : Nat} {T : Nat → Prop} {L : List FdT} {pm fl : Int32} {l4 : Int64} {st0 st : RS} (hm : pm.toInt = m) (hm8 : m < 8) (hTo : ∀ j, j < 8 → (T j ↔ gF st0 0 j ≠ 0)) (hnum : 1 ≤ num ∧ num ≤ 30) (hfl : fl.toInt = (31 * m + num : Nat)) (hF0 : FF (31 * m + num) st0 st) (h27 : gI st 27 = gI st0 27) (hL : RfI f m T L st0) (hL10 : L.length ≤ 10) (hns : ¬ seenN L num) (hw : rn ltr f n w - w ≤ 8) (h4 : l4 = pkv f w (rn ltr f n w - w)) (h : Tx f n w st) (hk0 : w ≤ n) (h13 : gI st 13 = 0) (h18 : (gI st 18).toInt ≠ w) (hWd : WdI st) : Ok (x9_field_297 pm fl l4 st) (FlP f n m T L ((kdF f n m T (rn ltr f n w)).map (fun z => ((num, w, rn ltr f n w, z.1), z.2))) (31 * m + num) st0) := by
  have n4 := h.2.2.2.1
  have hge := rn_ge ltr f n w
  have hle := rn_le ltr f hk0
  unfold x9_field_297
  rw [Ok_pif]
  refine ⟨fun _ => Ok.call (r_wordEnd h) (fun e u hu => ?_), fun q => absurd h13 q⟩
  obtain ⟨u1, u2⟩ := hu
  have u1 : u = st := u1
  have u2 : e.toInt = rn ltr f n w := u2
  subst u1
  rw [Ok_nam]
  have el : (e - gI u 11).toInt = (rn ltr f n w - w : Nat) := by rw [t_sub (by rw [h.2.2.1]; omega) (by rw [h.2.2.1]; omega), u2, h.2.2.1]; omega
  generalize e - gI u 11 = l6 at el ⊢
  refine Ok.callv (r_takes h hk0) (fun v hv => ?_)
  obtain ⟨v1, v2, v3, v4, v5⟩ := hv
  have c13 : gI v 13 = 0 := (v5 h18).trans h13
  refine Ok.call (r_word v2 hle) (fun x t ht => ?_)
  obtain ⟨t1, t2, t3⟩ := ht
  have t1 : Fr [11, 17] [] v t := t1
  have t2 : Tx f n (rn blk f n (rn ltr f n w)) t := t2
  have t3 : x = wdv f n (rn blk f n (rn ltr f n w)) := t3
  have hWt : WdI t := fun k k1 k2 => by
    rw [(t1.1 k (by simp; omega)).2, (v1.1 k (by simp; omega)).2]
    exact hWd k k1 k2
  have d13 : gI t 13 = 0 := ((t1.1 13 (by decide)).1).trans c13
  have d18 : (gI t 18).toInt = rn ltr f n w := by rw [(t1.1 18 (by decide)).1]; exact v3
  have Ft : FF (31 * m + num) st0 t := (hF0.tr (FF.of v1 (by decide))).tr (FF.of t1 (by decide))
  have d27 : gI t 27 = gI st0 27 := by rw [(t1.1 27 (by decide)).1, (v1.1 27 (by decide)).1]; exact h27
  have hle2 := rn_le blk f hle
  rw [t3]
  refine Ok.call (r_kindOf hWt) (fun k y hy => ?_)
  obtain ⟨y1, y2⟩ := hy
  have y1 : y = t := y1
  subst y1
  rw [Ok_pif]
  rcases y2 with ⟨q1, q2⟩ | ⟨q1, q2⟩
  · have q2 : k = -1 := q2
    refine ⟨fun _ => Ok.callv (r_fail (by decide)) (fun b hb => ?_), fun q => absurd q2 q⟩
    refine (r_345b hb.2).mono (fun a ha => ?_)
    rw [ha]
    refine ⟨Ft.tr (FF.of hb.1 (by decide)), Rs.n ?_ hb.2⟩
    unfold kdF
    rw [nam_x, nam_x, pif_pos q1]
    rfl
  · have q2 : k.toInt = kdW f (rn blk f n (rn ltr f n w)) (rn ltr f n (rn blk f n (rn ltr f n w))) := q2
    have kr := kdW_r f (rn blk f n (rn ltr f n w)) (rn ltr f n (rn blk f n (rn ltr f n w)))
    have hk : k = Int32.ofNat (kdW f (rn blk f n (rn ltr f n w)) (rn ltr f n (rn blk f n (rn ltr f n w)))) := by rw [t_eq, q2, t_nI (by omega)]
    have hk1 : k ≠ -1 := fun q => by
      rw [q] at q2
      have : (-1 : Int32).toInt = -1 := rfl
      omega
    refine ⟨fun q => absurd q hk1, fun _ => ?_⟩
    have hne : rn blk f n (rn ltr f n w) ≠ rn ltr f n w := fun q => by
      rw [q, rn_idem] at q1
      have : kdW f (rn ltr f n w) (rn ltr f n w) = 0 := by
        have no : ∀ l : List Int32, l ≠ [] → ¬ wEq f (rn ltr f n w) (rn ltr f n w) l := fun l hl q => hl (List.eq_nil_of_length_eq_zero (by rw [← q.1]; omega))
        unfold kdW
        rw [pif_neg (no _ (by simp)), pif_neg (no _ (by simp)), pif_neg (no _ (by simp)), pif_neg (no _ (by simp)), pif_neg (no _ (by simp)), pif_neg (no _ (by simp))]
      omega
    refine (r_345 (e2 := rn ltr f n w) (w := w) (num := num) hm hm8 hTo hnum hfl Ft d27 hL hL10 hns hw (fun j hj => rn_ltr hj) h4 el t2 hle2 d13 (by omega) hWt.v.2.2.2.2.2.2.2 hk ⟨q1, kr⟩).mono (fun a ha => ?_)
    have ek : kdF f n m T (rn ltr f n w) = kkF f n m T (kdW f (rn blk f n (rn ltr f n w)) (rn ltr f n (rn blk f n (rn ltr f n w)))) (rn ltr f n (rn blk f n (rn ltr f n w))) := by
      unfold kdF
      rw [nam_x, nam_x, pif_neg (by omega)]
    rw [ek]
    exact ha
