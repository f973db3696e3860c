theorem wdv_ge {f : Nat → Int32} {n w : Nat} : 0 ≤ (wdv f n w).toInt ↔ rn ltr f n w - w ≤ 8 := by
  unfold wdv
  by_cases c : rn ltr f n w - w ≤ 8
  · rw [pif_pos c, pkv_N _ c (fun j hj => rn_ltr hj)]
    exact ⟨fun _ => c, fun _ => (pkN_b _ (fun j hj => rn_ltr hj)).1⟩
  · rw [pif_neg c]
    exact ⟨fun q => absurd q (by decide), fun q => absurd q c⟩
theorem kdW_n {f : Nat → Int32} {n m w : Nat} {T : Nat → Prop} {L : List FdT} {num e1 : Nat} (hw : w = rn blk f n e1) (h : kdW f w (rn ltr f n w) ≠ 0) (hg : ¬ wEq f w (rn ltr f n w) [103, 111, 110, 101]) : tlF f n m T L num e1 = none := by
  unfold tlF
  rw [nam_x, nam_x, ← hw]
  by_cases c : 1 ≤ rn ltr f n w - w ∧ rn ltr f n w - w ≤ 8
  · rw [pif_pos c, pif_neg hg, pif_neg (fun q => h q.1)]
  · rw [pif_neg c]
theorem r_76b {f : Nat → Int32} {n e1 : Nat} {pm fl : Int32} {st : RS} (h : Tx f n e1 st) (hp : e1 ≤ n) (h13 : gI st 13 ≠ 0) : Ok (x9_field_76 pm fl st) (fun t => Fr [11, 13, 14, 17] [] st t ∧ gI t 13 ≠ 0) := by
  unfold x9_field_76
  refine Ok.call (r_word h hp) (fun x t ht => ?_)
  obtain ⟨t1, t2, t3⟩ := ht
  have t1 : Fr [11, 17] [] st t := t1
  have c13 : gI t 13 ≠ 0 := by rw [(t1.1 13 (by decide)).1]; exact h13
  rw [Ok_pif]
  refine ⟨fun _ => Ok.callv (r_fail (by decide)) (fun u hu => (r_98b hu.2).mono (fun v hv => ?_)), fun _ => (r_98b c13).mono (fun v hv => ?_)⟩
  · rw [hv]; exact ⟨(t1.d (by decide) (by decide)).tr (hu.1.d (by decide) (by decide)), hu.2⟩
  · rw [hv]; exact ⟨t1.d (by decide) (by decide), c13⟩
theorem r_76 {f : Nat → Int32} {n m num e1 : Nat} {T : Nat → Prop} {L : List FdT} {pm fl : Int32} {st0 st : RS} (hm : pm.toInt = m) (hm8 : m < 8) (hTo : ∀ j, j < 8 → (T j ↔ gF st0 0 j ≠ 0)) (hnum : 1 ≤ num ∧ num ≤ 30) (hfl : fl.toInt = (31 * m + num : Nat)) (hF0 : Fr [11, 13, 14, 17, 18] [] st0 st) (hL : RfI f m T L st0) (hL10 : L.length ≤ 10) (hns : ¬ seenN L num) (h : Tx f n e1 st) (he1 : e1 ≤ n) (h13 : gI st 13 = 0) (h18 : (gI st 18).toInt = e1) (hWd : WdI st) : Ok (x9_field_76 pm fl st) (FlP f n m T L (pif (e1 < n ∧ ltr (f e1)) none (tlF f n m T L num e1)) (31 * m + num) st0) := by
  have fln : fl.toNatClampNeg = 31 * m + num := by rw [t_nat]; omega
  have flin : vp_in fl 248 := by rw [t_in]; omega
  unfold x9_field_76
  refine Ok.call (r_word h he1) (fun x t ht => ?_)
  obtain ⟨t1, t2, t3⟩ := ht
  have t1 : Fr [11, 17] [] st t := t1
  have t2 : Tx f n (rn blk f n e1) t := t2
  have t3 : x = wdv f n (rn blk f n e1) := t3
  have hw := rn_le blk f he1
  have hwe := rn_ge blk f n e1
  have n4 := h.2.2.2.1
  obtain ⟨w, ew⟩ : ∃ w, w = rn blk f n e1 := ⟨_, rfl⟩
  have hwb : w ≠ e1 → ¬ (e1 < n ∧ ltr (f e1)) := fun q r => blk_l (rn_ne (P := blk) (by rw [← ew]; exact q)).2 r.2
  have htl : tlF f n m T L num e1 = pif (1 ≤ rn ltr f n w - w ∧ rn ltr f n w - w ≤ 8)
      (pif (wEq f w (rn ltr f n w) [103, 111, 110, 101]) (clF f n (rn ltr f n w) (num, 0, 0, 0, 0, -1, 0, 0))
        (pif (kdW f w (rn ltr f n w) = 0 ∧ ¬ seenW f L w (rn ltr f n w)) ((kdF f n m T (rn ltr f n w)).map (fun z => ((num, w, rn ltr f n w, z.1), z.2))) none))
      none := by rw [ew]; rfl
  have hkn : kdW f w (rn ltr f n w) ≠ 0 → ¬ wEq f w (rn ltr f n w) [103, 111, 110, 101] → tlF f n m T L num e1 = none := kdW_n ew
  rw [← ew] at t2 t3 hw hwe
  clear ew
  obtain ⟨o, eo⟩ : ∃ o, o = pif (e1 < n ∧ ltr (f e1)) none (tlF f n m T L num e1) := ⟨_, rfl⟩
  have onone : tlF f n m T L num e1 = none → o = none := fun q => by
    rw [eo]
    by_cases c : e1 < n ∧ ltr (f e1)
    · rw [pif_pos c]
    · rw [pif_neg c]; exact q
  have osame : w ≠ e1 → o = tlF f n m T L num e1 := fun q => by rw [eo, pif_neg (hwb q)]
  have owe : w = e1 → 1 ≤ rn ltr f n w - w → o = none := fun q r => by
    rw [eo, pif_pos ?_]
    have hl := rn_ltr (f := f) (n := n) (a := w) (j := 0) (by omega)
    rw [Nat.add_zero, q] at hl
    have := rn_le ltr f hw
    exact ⟨by omega, hl⟩
  rw [← eo]
  clear eo
  have c13 : gI t 13 = 0 := ((t1.1 13 (by decide)).1).trans h13
  have c18 : (gI t 18).toInt = e1 := by rw [(t1.1 18 (by decide)).1]; exact h18
  have hFt : Fr [11, 13, 14, 17, 18] [] st0 t := hF0.tr (t1.d (by decide) (by decide))
  have hWt : WdI t := fun k k1 k2 => by rw [(t1.1 k (by simp; omega)).2]; exact hWd k k1 k2
  have hle := rn_le ltr f hw
  have hge := rn_ge ltr f n w
  have badP : ∀ u, Fr [11, 13, 14, 17, 18] [] t u → gI u 13 ≠ 0 → o = none → FlP f n m T L o (31 * m + num) st0 u := fun u hu h3 ho => ⟨FF.of (hFt.tr hu) (by decide), Rs.n ho h3⟩
  rw [t3, Ok_pif, lg_cmp_eq, wd_0]
  refine ⟨fun c0 => Ok.callv (r_fail (by decide)) (fun u hu => (r_98b hu.2).mono (fun v hv => ?_)), fun c0 => ?_⟩
  · rw [hv]
    exact badP u (hu.1.d (by decide) (by decide)) hu.2 (onone (by rw [htl, pif_neg (fun q => by omega)]))
  have hl1 : 1 ≤ rn ltr f n w - w := by omega
  -- the names' search with a fault
  have b232 : o = none → ∀ u, Fr [13, 14] [] t u → gI u 13 ≠ 0 → Ok (x9_field_232 pm fl (wdv f n w) u) (FlP f n m T L o (31 * m + num) st0) := fun ho u hu h3 => by
    unfold x9_field_232
    rw [show fuel = (fuel - 1) + 1 from rfl]
    refine (r_235b h3).mono (fun v hv => ?_)
    rw [hv]
    exact badP u (hu.d (by decide) (by decide)) h3 ho
  have b201 : o = none → Ok (x9_field_201 pm fl (wdv f n w) t) (FlP f n m T L o (31 * m + num) st0) := fun ho => by
    unfold x9_field_201
    exact Ok.callv (r_fail (by decide)) (fun u hu => b232 ho u hu.1 hu.2)
  unfold x9_field_98
  rw [Ok_pif, Ok_pif, lg_cmp_eq, hWt.v.1, wd_gone]
  refine ⟨fun _ => ⟨fun cg => ?_, fun cg => ?_⟩, fun q => absurd c13 q⟩
  · -- gone
    have hlen : rn ltr f n w - w = 4 := cg.1
    refine Ok.callv (r_takes t2 hw) (fun u hu => ?_)
    obtain ⟨u1, u2, u3, u4, u5⟩ := hu
    have hFu : Fr [11, 13, 14, 17, 18] [] t u := u1.d (by decide) (by decide)
    refine Ok.callv (r_sign u2 (by decide)) (fun v hv => ?_)
    obtain ⟨v1, v2⟩ := hv
    have hFv : Fr [11, 13, 14, 17, 18] [] t v := hFu.tr (v1.d (by decide) (by decide))
    by_cases cw : w = e1
    · have b3 : gI u 13 ≠ 0 := u4 (by rw [c18, cw])
      have b4 : gI v 13 ≠ 0 := by
        rcases v2 with ⟨a1, a2, a3, a4⟩ | ⟨a1, a2, a3⟩
        · rw [a3]; exact b3
        · exact a2
      simp only [Ok_pif, Ok_some]
      exact ⟨fun q => absurd q b4, fun _ => badP v hFv b4 (owe cw hl1)⟩
    · have b3 : gI u 13 = 0 := (u5 (by rw [c18]; omega)).trans c13
      have ho : o = clF f n (rn ltr f n w) (num, 0, 0, 0, 0, -1, 0, 0) := by rw [osame cw, htl, pif_pos ⟨by omega, by omega⟩, pif_pos cg]
      rcases v2 with ⟨a1, a2, a3, a4⟩ | ⟨a1, a2, a3⟩
      · have b4 : gI v 13 = 0 := a3.trans b3
        simp only [Ok_pif, Ok_gd, Ok_nam, Ok_some, fln]
        have FFv : FF (31 * m + num) st0 v := FF.of (hFt.tr hFv) (by decide)
        have ev27 : gI v 27 = gI st0 27 := ((hFt.tr hFv).1 27 (by decide)).1
        have h27' := hL.2.2
        have hge2 := rn_ge blk f n (rn ltr f n w)
        refine ⟨fun _ => ⟨flin, flin, flin, flin, flin, ?_, Rs.s (by rw [ho]; unfold clF; rw [pif_pos ⟨a1, a2⟩]) ⟨b4, ⟨?_, ?_⟩, ?_⟩⟩, fun q => absurd b4 q⟩
        · exact (((((FFv.tr FF.s8).tr FF.s1).tr FF.s4).tr FF.s5).tr FF.s2).tr FF.i27
        · exact a4.fr ((((((Fr.rf.sF (I := [27]) (F := [1, 2, 4, 5, 8]) (by decide)).sF (by decide)).sF (by decide)).sL (by decide)).sF (by decide)).sI (by decide)) (by decide) (by decide) (by decide)
        · show (gI v 18).toInt < (rn blk f n (rn ltr f n w) + 1 : Nat)
          rw [(v1.1 18 (by decide)).1, u3]
          omega
        · refine RfI.add (x := (num, 0, 0, 0, 0, -1, 0, 0)) hL ((((((FFv.tr FF.s8).tr FF.s1).tr FF.s4).tr FF.s5).tr FF.s2).tr FF.i27) ?_ hns ?_ ?_
          · refine ⟨hnum, by show (0 : Nat) ≤ 6; decide, ?_, ?_, ?_, by show (0 : Nat) - 0 ≤ 8; decide, fun j hj => absurd hj (by show ¬ j < 0 - 0; omega), ?_, fun q => absurd rfl q⟩
            · show (upd (gF v 1) (31 * m + num) 0 (31 * m + num)).toInt = _
              rw [upd_eq rfl]
              rfl
            · show (upd (gF v 2) (31 * m + num) 0 (31 * m + num)).toInt = _
              rw [upd_eq rfl]
              rfl
            · show (upd (gF v 4) (31 * m + num) 0 (31 * m + num)).toInt = _
              rw [upd_eq rfl]
              rfl
            · show vp_updL (gL v 5) (31 * m + num) 0 (31 * m + num) = _
              unfold vp_updL
              rw [if_pos rfl]
              rfl
          · show upd (gF v 8) (31 * m + num) (vp_nar .boolean 1) (31 * m + num) ≠ 0
            rw [upd_eq rfl]
            exact nar1
          · show (gI v 27 + 1).toInt = _
            rw [ev27]
            exact inc (by omega) (by omega)
      · simp only [Ok_pif, Ok_some]
        exact ⟨fun q => absurd q a2, fun _ => badP v hFv a2 (by rw [ho]; unfold clF; rw [pif_neg a1])⟩
  · have hcmp : (gI t 11 = gI t 18) ↔ w = e1 := by rw [t_eq, t2.2.2.1, c18]; omega
    rw [Ok_pif, hcmp]
    refine ⟨fun cw => b201 (owe cw hl1), fun cw => Ok.call (r_kindOf hWt) (fun k y hy => ?_)⟩
    obtain ⟨y1, y2⟩ := hy
    have y1 : y = t := y1
    subst y1
    rcases y2 with ⟨q1, q2⟩ | ⟨q1, q2⟩
    · have q2 : k = -1 := q2
      rw [Ok_pif, Ok_pif, lg_cmp_ge, j_le, show (0 : Int64).toInt = 0 from rfl, wdv_ge]
      refine ⟨fun _ => ⟨fun c8 => ?_, fun c8 => Ok.callv (r_fail (by decide)) (fun u hu => b232 (by rw [osame cw, htl, pif_neg (fun q => c8 q.2)]) u hu.1 hu.2)⟩, fun q => absurd q2 q⟩
      have e4 : wdv f n w = pkv f w (rn ltr f n w - w) := by unfold wdv; rw [pif_pos c8]
      have e85 := fr_85 hFt
      have hs := seenW_pk hL c8 hl1
      unfold x9_field_232
      refine r_235 hm hm8 c13 (fun hg => ?_) (fun hb u hu h3 => ?_) fuel 1 1 rfl (by omega) (by omega) (by unfold fuel; omega) (fun j j1 j2 => by omega)
      · have hno : ¬ seenW f L w (rn ltr f n w) := fun q => by
          obtain ⟨j, j1, j2, j3, j4⟩ := hs.mpr q
          exact hg j j1 j2 (by rw [e85.1]; exact j3) (by rw [e85.2, e4]; exact j4)
        refine (r_297 (num := num) (w := w) (L := L) (T := T) hm hm8 hTo hnum hfl (FF.of hFt (by decide)) ((hFt.1 27 (by decide)).1) hL hL10 hns c8 e4 t2 hw c13 (by rw [c18]; omega) hWt).mono (fun a ha => ?_)
        rw [osame cw, htl, pif_pos ⟨hl1, c8⟩, pif_neg cg, pif_pos ⟨q1, hno⟩]
        exact ha
      · obtain ⟨j, j1, j2, j3, j4⟩ := hb
        have hyes : seenW f L w (rn ltr f n w) := hs.mp ⟨j, j1, j2, by rw [← e85.1]; exact j3, by rw [← e85.2, ← e4]; exact j4⟩
        exact badP u (hu.d (by decide) (by decide)) h3 (by rw [osame cw, htl, pif_pos ⟨hl1, c8⟩, pif_neg cg, pif_neg (fun q => q.2 hyes)])
    · have q2 : k.toInt = kdW f w (rn ltr f n w) := q2
      have hk1 : k ≠ -1 := fun q => by
        rw [q] at q2
        have : (-1 : Int32).toInt = -1 := rfl
        omega
      rw [Ok_pif]
      exact ⟨fun q => absurd q hk1, fun _ => b201 (onone (hkn (by omega) cg))⟩
