theorem ofN_4 (v : Int64) : ofN v 4 := ⟨fun h => absurd h (by decide), fun h => absurd h (by decide), fun _ _ h => absurd rfl h⟩
theorem r_value198 (f : Nat → Int32) (n s F : Nat) (fl k l3 l4 l5 : Int32) (st0 st : RS) (v : Int64) (l8 : Int32) (hfl : fl.toInt = F) (hF : F < 248) (hFr : Fr [11, 13, 14, 18] [6] st0 st) (h6 : gL st 6 = gL st0 6) (h13 : gI st 13 = 0) (hT : Tx f n (rn dgt f n s) st) (h5 : l5.toInt = s) (h19 : rn dgt f n s - s ≤ 19) (hb0 : l8 = 0 → v.toInt = - dvN f s (rn dgt f n s - s)) (hb1 : l8 ≠ 0 → 9223372036854775808 < dvN f s (rn dgt f n s - s)) (hN0 : 0 ≤ dvN f s (rn dgt f n s - s)) : Ok (x9_value_198 fl k l3 l4 l5 v l8 st) (VaR f n s F (l4 ≠ 0) k st0) := by
  have hg := rn_ge dgt f n s
  have hr := (uN_toInt v)
  have rv : -9223372036854775808 ≤ v.toInt ∧ v.toInt < 9223372036854775808 := ⟨Int64.le_toInt v, Int64.toInt_lt v⟩
  unfold x9_value_198
  simp only [Ok_pif]
  have he : (gI st 11 = l5) ↔ rn dgt f n s = s := by rw [t_eq, hT.2.2.1, h5]; omega
  rw [he]
  refine ⟨fun c => Ok.callv (r_fail (by decide)) (fun u hu => ?_), fun c => ?_⟩
  · rw [Ok_some]
    exact ⟨hFr.tr (hu.1.d (by decide) (by decide)), fun j _ => by rw [(hu.1.2 6 (by decide)).2, h6], Or.inr ⟨fun w => by have := w.1.1; omega, hu.2⟩⟩
  · have hD : DigG f n s := ⟨by omega, h19⟩
    rw [Ok_nam]
    have hFr2 : Fr [11, 13, 14, 18] [6] st0 (sI st 18 (gI st 11)) := hFr.sI (by decide)
    have hT2 : Tx f n (rn dgt f n s) (sI st 18 (gI st 11)) := hT.fr (Fr.rf.sI (I := [18]) (F := []) (by decide)) (by decide) (by decide) (by decide)
    have over : l8 ≠ 0 → ¬ ∃ V, RngG f n s (l4 ≠ 0) k V := fun q w => by
      obtain ⟨V, w1, w2, w3, w4, -⟩ := w
      have := hb1 q
      by_cases c4 : l4 ≠ 0
      · have := w1 c4; omega
      · have := w2 c4; omega
    unfold x9_value_242
    simp only [Ok_pif, Ok_nam, lg_cmp_eq]
    refine ⟨fun c4 => ⟨fun cm => ⟨fun _ => ?_, fun q => absurd c4 q⟩, fun cm => ⟨fun _ => ?_, fun q => absurd c4 q⟩⟩, fun c4 => ⟨fun q => absurd q c4, fun _ => ?_⟩⟩
    · refine r_value253 f n s F (l4 ≠ 0) fl k l3 st0 _ _ 1 hfl hF hFr2 h6 h13 hT2 rfl hD (fun q => absurd q (by decide)) (fun _ w => ?_)
      obtain ⟨V, w1, w2, w3, w4, -⟩ := w
      have hV := w2 (fun q => q c4)
      by_cases q8 : l8 = 0
      · have h1 := hb0 q8
        rw [cm] at h1
        have : (-9223372036854775808 : Int64).toInt = -9223372036854775808 := rfl
        omega
      · have := hb1 q8
        omega
    · refine r_value253 f n s F (l4 ≠ 0) fl k l3 st0 _ _ l8 hfl hF hFr2 h6 h13 hT2 rfl hD (fun q8 => ?_) over
      have h1 := hb0 q8
      have hne : v.toInt ≠ -9223372036854775808 := fun w => cm (by rw [j_eq]; exact w)
      have e0 : (0 - v).toInt = - v.toInt := by
        rw [j_sub (by show -9223372036854775808 ≤ 0 - v.toInt; omega) (by show 0 - v.toInt < 9223372036854775808; omega)]
        show 0 - v.toInt = _
        omega
      exact ⟨fun q => absurd c4 q, fun _ => by omega, by omega, by omega, ofN_4 _⟩
    · refine r_value253 f n s F (l4 ≠ 0) fl k l3 st0 _ _ l8 hfl hF hFr2 h6 h13 hT2 rfl hD (fun q8 => ?_) over
      exact ⟨fun _ => hb0 q8, fun q => absurd c4 q, by omega, by omega, ofN_4 _⟩
set_option maxHeartbeats 1000000 in
theorem r_value69 (f : Nat → Int32) (n s F : Nat) (fl k l3 l4 l5 : Int32) (st0 : RS) (hfl : fl.toInt = F) (hF : F < 248) (hn : n ≤ 400) (hsn : s ≤ n) (h5 : l5.toInt = s) : ∀ (z i : Nat) (v : Int64) (l8 : Int32) (st : RS), i ≤ 19 → 20 - i < z → s + i ≤ n → Fr [11, 13, 14, 18] [6] st0 st → gL st 6 = gL st0 6 → gI st 13 = 0 → Tx f n (s + i) st → (∀ j, j < i → dgt (f (s + j))) → (l8 = 0 → v.toInt = - dvN f s i) → (l8 ≠ 0 → 9223372036854775808 < dvN f s i) → Ok (x9_value_69 z fl k l3 l4 l5 v l8 st) (VaR f n s F (l4 ≠ 0) k st0) := by
  intro z
  induction z with
  | zero => intro i v l8 st a b; omega
  | succ z ih =>
    intro i v l8 st hi hz hsi hFr h6 h13 hT hD hb0 hb1
    obtain ⟨f1, f2, f3, f4, f5⟩ := id hT
    have en : (gI st 11).toNatClampNeg = s + i := by rw [t_nat]; omega
    have hN0 := dvN_r (f := f) (s := s) i hD
    have fin : ¬ (s + i < n ∧ dgt (f (s + i))) → Ok (x9_value_198 fl k l3 l4 l5 v l8 st) (VaR f n s F (l4 ≠ 0) k st0) := by
      intro hno
      have er : s + i = rn dgt f n s := run.eq ⟨by omega, fun j j1 j2 => ⟨by omega, by have := hD (j - s) (by omega); rw [show s + (j - s) = j by omega] at this; exact this⟩, hno⟩
      have ei : rn dgt f n s - s = i := by omega
      exact r_value198 f n s F fl k l3 l4 l5 st0 st v l8 hfl hF hFr h6 h13 (by rw [← er]; exact hT) h5 (by omega) (by rw [ei]; exact hb0) (by rw [ei]; exact hb1) (by rw [ei]; exact hN0)
    rw [x9_value_69_s]
    simp only [Ok_pif, Ok_gd, f1, en]
    rw [t_le, f2, f3, t_in]
    refine ⟨fun c => fin (fun q => by omega), fun c => ⟨by omega, Ok.bp r_isDigit (fun hd => ?_) (fun hd => ?_)⟩⟩
    · have hd : dgt (f (s + i)) := hd
      have hx := hd
      unfold dgt at hx
      have es : (gI st 11 - l5).toInt = i := by rw [t_sub (by omega) (by omega), f3, h5]; omega
      have e19 : (gI st 11 - l5 = 19) ↔ i = 19 := by rw [t_eq, es, show (19 : Int32).toInt = 19 from rfl]; omega
      have ed : (f (s + i) - 48).toInt = (f (s + i)).toInt - 48 := by
        rw [t_sub (by show -2147483648 ≤ (f (s + i)).toInt - 48; omega) (by show (f (s + i)).toInt - 48 < 2147483648; omega)]
        rfl
      have enx : dvN f s (i + 1) = 10 * dvN f s i + (f (s + i)).toInt - 48 := rfl
      have hD' : ∀ j, j < i + 1 → dgt (f (s + j)) := fun j hj => by
        rcases Nat.lt_or_ge j i with q | q
        · exact hD j q
        · rw [show j = i by omega]; exact hd
      have nx : i < 19 → ∀ (v' : Int64) (b : Int32), (b = 0 → v'.toInt = - dvN f s (i + 1)) → (b ≠ 0 → 9223372036854775808 < dvN f s (i + 1)) → Ok (x9_value_69 z fl k l3 l4 l5 v' b (sI st 11 (gI st 11 + 1))) (VaR f n s F (l4 ≠ 0) k st0) := fun hi19 v' b q0 q1 => ih (i + 1) v' b _ (by omega) (by omega) (by omega) (hFr.sI (by decide)) h6 h13 (hT.step (by omega)) hD' q0 q1
      simp only [Ok_pif, Ok_gd, Ok_nam, f1, en]
      rw [e19]
      refine ⟨fun h => absurd h (by decide), fun _ => ⟨fun c2 => Ok.callv (r_fail (by decide)) (fun u hu => ?_), fun c2 => ⟨by rw [t_in]; omega, ?_⟩⟩⟩
      · rw [Ok_some]
        refine ⟨hFr.tr (hu.1.d (by decide) (by decide)), fun j _ => by rw [(hu.1.2 6 (by decide)).2, h6], Or.inr ⟨fun w => ?_, hu.2⟩⟩
        have h3 := w.1.2
        obtain ⟨r1, r2, r3⟩ := rn_run dgt f n s
        refine r3 ⟨by omega, ?_⟩
        have := hD' (rn dgt f n s - s) (by omega)
        rw [show s + (rn dgt f n s - s) = rn dgt f n s by omega] at this
        exact this
      · have hi19 : i < 19 := by omega
        unfold x9_value_161 x9_value_165 x9_value_166 x9_value_185
        simp only [Ok_pif, Ok_nam, lg_cmp_lt, lg_cmp_eq]
        rw [j_lt, j_eq, t_le, ed, show (-922337203685477580 : Int64).toInt = -922337203685477580 from rfl, show (8 : Int32).toInt = 8 from rfl]
        have over : l8 = 0 → 9223372036854775808 < dvN f s (i + 1) → ((1 : Int32) = 0 → Ok (x9_value_69 z fl k l3 l4 l5 (10 * v - (f (s + i) - 48).toInt64) 1 (sI st 11 (gI st 11 + 1))) (VaR f n s F (l4 ≠ 0) k st0)) ∧ (¬ (1 : Int32) = 0 → Ok (x9_value_69 z fl k l3 l4 l5 v 1 (sI st 11 (gI st 11 + 1))) (VaR f n s F (l4 ≠ 0) k st0)) := fun _ hov => ⟨fun h => absurd h (by decide), fun _ => nx hi19 v 1 (fun h => absurd h (by decide)) (fun _ => hov)⟩
        have under : l8 = 0 → dvN f s (i + 1) ≤ 9223372036854775808 → (True → Ok (x9_value_69 z fl k l3 l4 l5 (10 * v - (f (s + i) - 48).toInt64) 0 (sI st 11 (gI st 11 + 1))) (VaR f n s F (l4 ≠ 0) k st0)) ∧ (¬ True → Ok (x9_value_69 z fl k l3 l4 l5 v 0 (sI st 11 (gI st 11 + 1))) (VaR f n s F (l4 ≠ 0) k st0)) := fun q8 hun => ⟨fun _ => nx hi19 _ 0 (fun _ => by
          have h1 := hb0 q8
          have e1 : (10 * v).toInt = 10 * v.toInt := by
            rw [j_mul (by show -9223372036854775808 ≤ 10 * v.toInt; omega) (by show 10 * v.toInt < 9223372036854775808; omega)]
            rfl
          rw [j_sub (by rw [e1, j_of, ed]; omega) (by rw [e1, j_of, ed]; omega), e1, j_of, ed]
          omega) (fun h => absurd rfl h), fun h => absurd trivial h⟩
        refine ⟨fun q8 => ⟨fun c3 => over q8 (by have := hb0 q8; omega), fun c3 => ⟨fun c4 => ⟨fun c5 => under q8 (by have := hb0 q8; omega), fun c5 => over q8 (by have := hb0 q8; omega)⟩, fun c4 => under q8 (by have := hb0 q8; omega)⟩⟩, fun q8 => ⟨fun h => absurd h (by decide), fun _ => nx hi19 v 1 (fun h => absurd h (by decide)) (fun _ => by have := hb1 q8; omega)⟩⟩
    · simp only [Ok_pif]
      exact ⟨fun _ => fin (fun q => hd q.2), fun h => by simp at h⟩
