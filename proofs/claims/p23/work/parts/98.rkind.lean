theorem WdI.v {st : RS} (h : WdI st) : gJ st 19 = 149099 ∧ gJ st 20 = 126880 ∧ gJ st 21 = 10354323 ∧ gJ st 22 = 6959 ∧ gJ st 23 = 247516 ∧ gJ st 24 = 397973 ∧ gJ st 25 = 13260 ∧ gJ st 26 = 257 := ⟨h 19 (by omega) (by omega), h 20 (by omega) (by omega), h 21 (by omega) (by omega), h 22 (by omega) (by omega), h 23 (by omega) (by omega), h 24 (by omega) (by omega), h 25 (by omega) (by omega), h 26 (by omega) (by omega)⟩
/-- which kind's word stands from a to b: 0 none -/
noncomputable def kdW (f : Nat → Int32) (a b : Nat) : Nat := pif (wEq f a b [102, 108, 97, 103]) 1 (pif (wEq f a b [115, 109, 97, 108, 108]) 2 (pif (wEq f a b [105, 110, 116]) 3 (pif (wEq f a b [108, 111, 110, 103]) 4 (pif (wEq f a b [116, 101, 120, 116]) 5 (pif (wEq f a b [114, 101, 99]) 6 0)))))
theorem kdW_r (f : Nat → Int32) (a b : Nat) : kdW f a b ≤ 6 := by
  unfold kdW
  by_cases c1 : wEq f a b [102, 108, 97, 103]
  · rw [pif_pos c1]; omega
  rw [pif_neg c1]
  by_cases c2 : wEq f a b [115, 109, 97, 108, 108]
  · rw [pif_pos c2]; omega
  rw [pif_neg c2]
  by_cases c3 : wEq f a b [105, 110, 116]
  · rw [pif_pos c3]; omega
  rw [pif_neg c3]
  by_cases c4 : wEq f a b [108, 111, 110, 103]
  · rw [pif_pos c4]; omega
  rw [pif_neg c4]
  by_cases c5 : wEq f a b [116, 101, 120, 116]
  · rw [pif_pos c5]; omega
  rw [pif_neg c5]
  by_cases c6 : wEq f a b [114, 101, 99]
  · rw [pif_pos c6]; omega
  rw [pif_neg c6]
  omega
/-- kindOf() -/
theorem r_kindOf {f : Nat → Int32} {n a : Nat} {st : RS} (h : WdI st) : Ok (x9_kindOf (wdv f n a) st) (fun q => q.2 = st ∧ ((kdW f a (rn ltr f n a) = 0 ∧ q.1 = -1) ∨ (1 ≤ kdW f a (rn ltr f n a) ∧ q.1.toInt = kdW f a (rn ltr f n a)))) := by
  obtain ⟨-, v1, v2, v3, v4, v5, v6, -⟩ := h.v
  unfold x9_kindOf
  simp only [Ok_pif, Ok_some, lg_cmp_eq, v1, v2, v3, v4, v5, v6]
  rw [wd_flag, wd_small, wd_int, wd_long, wd_text, wd_rec]
  unfold kdW
  refine ⟨fun c1 => ⟨trivial, Or.inr ?_⟩, fun c1 => ⟨fun c2 => ⟨trivial, Or.inr ?_⟩, fun c2 => ⟨fun c3 => ⟨trivial, Or.inr ?_⟩, fun c3 => ⟨fun c4 => ⟨trivial, Or.inr ?_⟩, fun c4 => ⟨fun c5 => ⟨trivial, Or.inr ?_⟩, fun c5 => ⟨fun c6 => ⟨trivial, Or.inr ?_⟩, fun c6 => ⟨trivial, Or.inl ?_⟩⟩⟩⟩⟩⟩⟩
  · rw [pif_pos c1]; exact ⟨by decide, rfl⟩
  · rw [pif_neg c1, pif_pos c2]; exact ⟨by decide, rfl⟩
  · rw [pif_neg c1, pif_neg c2, pif_pos c3]; exact ⟨by decide, rfl⟩
  · rw [pif_neg c1, pif_neg c2, pif_neg c3, pif_pos c4]; exact ⟨by decide, rfl⟩
  · rw [pif_neg c1, pif_neg c2, pif_neg c3, pif_neg c4, pif_pos c5]; exact ⟨by decide, rfl⟩
  · rw [pif_neg c1, pif_neg c2, pif_neg c3, pif_neg c4, pif_neg c5, pif_pos c6]; exact ⟨by decide, rfl⟩
  · rw [pif_neg c1, pif_neg c2, pif_neg c3, pif_neg c4, pif_neg c5, pif_neg c6]; exact ⟨rfl, trivial⟩
/-- bytes of a text's default, from p on: the first that is none, or the end -/
def qtb (x : Int32) : Prop := 32 ≤ x.toInt ∧ x.toInt ≤ 126 ∧ x ≠ 34
/-- a default text behind its first quote at s: its bytes, then a quote -/
def TxtG (f : Nat → Int32) (n s : Nat) : Prop := rn qtb f n s - s ≤ 12 ∧ rn qtb f n s < n ∧ f (rn qtb f n s) = 34
/-- the text's bytes are kept -/
def TvR (f : Nat → Int32) (n s : Nat) (F : Nat) (st0 t : RS) : Prop := Fr [11, 13, 14, 17] [6, 7] st0 t ∧ (∀ j, j ≠ F → gL t 6 j = gL st0 6 j) ∧ (∀ j, j < 12 * F ∨ 12 * F + 12 ≤ j → gF t 7 j = gF st0 7 j) ∧ ((TxtG f n s ∧ gI t 13 = 0 ∧ Tx f n (rn qtb f n s + 1) t ∧ (gL t 6 F).toInt = (rn qtb f n s - s : Nat) ∧ ∀ j, j < rn qtb f n s - s → gF t 7 (12 * F + j) = f (s + j)) ∨ (¬ TxtG f n s ∧ gI t 13 ≠ 0))
theorem r_textV8 (f : Nat → Int32) (n s F : Nat) (fl : Int32) (st0 : RS) (hfl : fl.toInt = F) (hF : F < 248) (hn : n ≤ 400) (hsn : s ≤ n) : ∀ (z i : Nat) (k : Int32) (st : RS), k.toInt = i → i ≤ 12 → 13 - i < z → s + i ≤ n → Fr [11, 13, 14, 17] [6, 7] st0 st → gL st 6 = gL st0 6 → (∀ j, j < 12 * F ∨ 12 * F + 12 ≤ j → gF st 7 j = gF st0 7 j) → gI st 13 = 0 → Tx f n (s + i) st → (∀ j, j < i → qtb (f (s + j))) → (∀ j, j < i → gF st 7 (12 * F + j) = f (s + j)) → Ok (x9_textValue_8 z fl k st) (TvR f n s F st0) := by
  intro z
  induction z with
  | zero => intro i k st a b c; omega
  | succ z ih =>
    intro i k st hk hi hz hsi hFr h6 h7 h13 hT hQ hB
    obtain ⟨f1, f2, f3, f4, f5⟩ := id hT
    have en : (gI st 11).toNatClampNeg = s + i := by rw [t_nat]; omega
    have fln : fl.toNatClampNeg = F := by rw [t_nat]; omega
    have ek := inc (x := k) (by omega) (by omega)
    have em : (12 * fl).toInt = 12 * fl.toInt := by
      rw [t_mul (by show -2147483648 ≤ 12 * fl.toInt; omega) (by show 12 * fl.toInt < 2147483648; omega)]
      rfl
    have ea : (12 * fl + k).toInt = 12 * F + i := by rw [t_add (by omega) (by omega), em, hfl, hk]
    have ean : (12 * fl + k).toNatClampNeg = 12 * F + i := by rw [t_nat, ea]; omega
    -- the run ends here
    have hend : ¬ (s + i < n ∧ qtb (f (s + i))) → s + i = rn qtb f n s := fun hno => run.eq ⟨by omega, fun j j1 j2 => ⟨by omega, by have := hQ (j - s) (by omega); rw [show s + (j - s) = j by omega] at this; exact this⟩, hno⟩
    -- all but the bytes ahead fail
    have fail83 : ¬ TxtG f n s → Ok (x9_textValue_74 (x9_textValue_8 z) fl k st) (TvR f n s F st0) := by
      intro hno
      unfold x9_textValue_74
      refine Ok.callv (r_fail (by decide)) (fun u hu => ?_)
      unfold x9_textValue_83
      simp only [Ok_pif, Ok_some]
      exact ⟨fun q => absurd q hu.2, fun _ => ⟨hFr.tr (hu.1.d (by decide) (by decide)), fun j _ => by rw [(hu.1.2 6 (by decide)).2, h6], fun j hj => by rw [(hu.1.2 7 (by decide)).1]; exact h7 j hj, Or.inr ⟨hno, hu.2⟩⟩⟩
    rw [x9_textValue_8_s]
    simp only [Ok_pif, Ok_gd, f1, en]
    rw [t_le, f2, f3, t_in, t_lt, t_le, show (32 : Int32).toInt = 32 from rfl, show (126 : Int32).toInt = 126 from rfl]
    have e12 : (k = 12) ↔ i = 12 := by rw [t_eq, hk, show (12 : Int32).toInt = 12 from rfl]; omega
    rw [e12]
    refine ⟨fun _ => ⟨fun c => ?_, fun c => ⟨by omega, fun q => ?_, fun q => ⟨fun c12 => fail83 (fun hG => ?_), fun c12 => ⟨by omega, fun lo => fail83 (fun hG => ?_), fun lo => ⟨by omega, fun hi2 => ?_, fun hi2 => fail83 (fun hG => ?_)⟩⟩⟩⟩⟩, fun h => absurd h13 h⟩
    · -- the end of the text: no quote
      have er := hend (fun w => by omega)
      have eq11 : gI st 11 = gI st 12 := by rw [t_eq, f2, f3]; omega
      unfold x9_textValue_127 x9_textValue_147
      simp only [Ok_pif]
      refine ⟨fun _ => Ok.callv (r_fail (by decide)) (fun u hu => ?_), fun h => absurd eq11 h⟩
      simp only [Ok_nam, Ok_gd, Ok_some, t_in, fln]
      refine ⟨by omega, ((hFr.tr (hu.1.d (by decide) (by decide))).sI (by decide)).sL (by decide), fun j hj => ?_, fun j hj => by rw [← h7 j hj, ← (hu.1.2 7 (by decide)).1]; rfl, Or.inr ⟨fun hG => by have := hG.2.1; omega, hu.2⟩⟩
      show vp_updL (gL u 6) F k.toInt64 j = _
      unfold vp_updL
      rw [if_neg hj, (hu.1.2 6 (by decide)).2, h6]
    · -- the quote
      have er := hend (fun w => w.2.2.2 q)
      have hne : ¬ gI st 11 = gI st 12 := by rw [t_eq, f2, f3]; omega
      unfold x9_textValue_127 x9_textValue_147
      simp only [Ok_pif, Ok_nam, Ok_gd, Ok_some, t_in, fln]
      refine ⟨fun h => absurd h hne, fun _ => ⟨by omega, (hFr.sI (by decide)).sL (by decide), fun j hj => ?_, h7, Or.inl ⟨⟨by omega, by omega, by rw [← er]; exact q⟩, h13, ?_, ?_, fun j hj => ?_⟩⟩⟩
      · show vp_updL (gL st 6) F k.toInt64 j = _
        unfold vp_updL
        rw [if_neg hj, h6]
      · rw [← er]
        exact (hT.step (by omega)).fr (Fr.rf.sL (I := []) (F := [6]) (by decide)) (by decide) (by decide) (by decide)
      · show (vp_updL (gL st 6) F k.toInt64 F).toInt = _
        unfold vp_updL
        rw [if_pos rfl, j_of, hk]
        omega
      · exact hB j (by omega)
    · -- a thirteenth byte
      obtain ⟨r1, r2, r3⟩ := rn_run qtb f n s
      have h1 := hG.1
      have h2 := hG.2.2
      rcases Nat.lt_or_ge (rn qtb f n s) (s + i) with w | w
      · have := hQ (rn qtb f n s - s) (by omega)
        rw [show s + (rn qtb f n s - s) = rn qtb f n s by omega] at this
        exact this.2.2 h2
      · have : rn qtb f n s = s + i := by omega
        rw [this] at h2
        exact q h2
    · have er := hend (fun w => by have := w.2.1; omega)
      have h2 := hG.2.2
      rw [← er] at h2
      exact q h2
    · -- one byte more
      have hq : qtb (f (s + i)) := ⟨by omega, hi2, q⟩
      unfold x9_textValue_83
      simp only [Ok_pif, Ok_gd, Ok_nam, Ok_some, t_in, ea, ean, f1, en]
      refine ⟨fun _ => ⟨by omega, by omega, ih (i + 1) (k + 1) _ (by rw [ek, hk]; rfl) (by omega) (by omega) (by omega) ((hFr.sF (by decide)).sI (by decide)) h6 (fun j hj => ?_) h13 ?_ (fun j hj => ?_) (fun j hj => ?_)⟩, fun h => absurd h13 h⟩
      · show upd (gF st 7) (12 * F + i) (f (s + i)) j = _
        rw [upd_ne (by omega)]
        exact h7 j hj
      · exact (hT.fr (Fr.rf.sF (I := []) (F := [7]) (by decide)) (by decide) (by decide) (by decide)).step (by omega)
      · rcases Nat.lt_or_ge j i with w | w
        · exact hQ j w
        · rw [show j = i by omega]; exact hq
      · show upd (gF st 7) (12 * F + i) (f (s + i)) (12 * F + j) = f (s + j)
        rcases Nat.lt_or_ge j i with w | w
        · rw [upd_ne (by omega)]; exact hB j w
        · rw [show j = i by omega, upd_eq rfl]
    · have er := hend (fun w => hi2 w.2.2.1)
      have h2 := hG.2.2
      rw [← er] at h2
      exact q h2
