/-- refused -/
def Bd (f : Nat → Int32) (n F : Nat) (a b : Int) (g : CS) (q : Int32 × CS) : Prop := q.1 = 0 ∧ Tf F a b g q.2 ∧ TrI f n q.2 ∧ qI q.2 45 4 ≠ 0
theorem w_bad {f : Nat → Int32} {n F : Nat} {a b : Int} {w x : Int32} {g0 g : CS} (h : TrI f n g) (hT : Tf F a b g0 g) (hw : w ≠ 0) : Ok (fX6_refuse 45 w x g) (Bd f n F a b g0) := (w_refuse h hw).mono (fun q hq => ⟨hq.1, (hT.tr hq.2.2.1.up).le (by omega) (by omega), hq.2.1, hq.2.2.2⟩)
theorem w_badN {f : Nat → Int32} {n F : Nat} {a b : Int} {w x : Int32} {g0 g : CS} (h : TrI f n g) (hT : Tf F a b g0 g) (hw : w ≠ 0) : Ok (bnd (fX6_refuse 45 w x g) (fun r t => gd (narrow .boolean (.int r) = .int r) (some (r, t)))) (Bd f n F a b g0) := Ok.call (w_bad h hT hw) (fun r t ht => by
  have hr : r = 0 := ht.1
  rw [Ok_gd, Ok_some]
  exact ⟨by rw [hr]; rfl, ht⟩)
/-- a field that is being written -/
def FO (g : CS) (F : Nat) : Prop := qk g F = 3 ∧ 106 ≤ F ∧ F < qn g
theorem FO.wr {g : CS} {F : Nat} (h : FO g F) : Wr F g := Or.inr h
theorem FO.fr {F H : Nat} {a b : Int} {g t : CS} (h : FO g F) (hT : Tf H a b g t) : FO t F := ⟨by rw [(hT.2.1 F h.2.2).1]; exact h.1, h.2.1, Nat.lt_of_lt_of_le h.2.2 hT.1.1⟩
theorem FO.nlb {f : Nat → Int32} {n F : Nat} {g : CS} (h : FO g F) (hT : TrI f n g) : F ≠ lb g := fun q => by
  have := hT.2.2.2.2.2.2.2.2.1
  rw [← q, h.1] at this
  cases this
/-- what isn't written stays -/
theorem FO.s {f : Nat → Int32} {n F : Nat} {a b : Int} {g t : CS} (h : FO g F) (hT : TrI f n g) (hF : Tf 46 a b g t) : qI t F = qI g F ∧ qJ t F = qJ g F ∧ qP t F = qP g F := by
  have h2 := h.2.1
  have e := hF.2.2.1 F h.2.2 (by omega) (by omega) (by omega) (h.nlb hT)
  exact ⟨e.1, e.2, hF.2.2.2.1 F h.2.2 (by omega) (by omega)⟩
/-- the number of a field -/
def CN (f : Nat → Int32) (n : Nat) (L : List FdT) (s : Nat) : Prop := (NumG f n s ∧ ¬ seenN L (dvN f s (rn dgt f n s - s)).toNat) ∧ ¬ (rn dgt f n s < n ∧ ltr (f (rn dgt f n s)))
def NuP (f : Nat → Int32) (n : Nat) (L : List FdT) (F s : Nat) (g : CS) (q : Int32 × CS) : Prop := (CN f n L s ∧ q.1 = 1 ∧ Tf F 0 0 g q.2 ∧ Tr f n (rn dgt f n s) q.2 ∧ (qI q.2 F 0).toInt = (dvN f s (rn dgt f n s - s)).toNat ∧ (∀ j, j ≠ 0 → qI q.2 F j = qI g F j) ∧ qJ q.2 F = qJ g F ∧ qP q.2 F = qP g F) ∨ (¬ CN f n L s ∧ Bd f n F 0 0 g q)
theorem w_num60 {f : Nat → Int32} {n F s k mk ar : Nat} {L : List FdT} {l3 l4 : Int32} {g0 g : CS} (hs : s ≤ n) (h : Tr f n (s + k) g) (hM : MbI f L mk ar g) (hO : FO g F) (hFr : Tf 46 0 0 g0 g) (hO0 : FO g0 F) (hT0 : TrI f n g0) (h3 : l3.toInt = s) (h4 : l4.toInt = dvN f s k) (hk : k ≤ 2) (hd : ∀ j, j < k → dgt (f (s + j))) (hkn : s + k ≤ n) (hend : k = 2 ∨ ¬ (s + k < n ∧ dgt (f (s + k)))) : Ok (fX6_takeNumber_60 45 (some F) (some mk) l3 l4 g) (NuP f n L F s g0) := by
  have hn4 := h.1.n400
  have hpos := h.2.1
  have hF106 := hO.2.1
  have dv := dvN_2 hk hd
  have keep := hO0.s hT0 hFr
  have bad : ∀ {w x : Int32}, w ≠ 0 → ¬ CN f n L s → Ok (bnd (fX6_refuse 45 w x g) (fun r t => gd (narrow .boolean (.int r) = .int r) (some (r, t)))) (NuP f n L F s g0) := fun hw hc => (w_badN h.1 hFr.up hw).mono (fun q hq => Or.inr ⟨hc, hq⟩)
  unfold fX6_takeNumber_60 fX6_takeNumber_79 fX6_takeNumber_102
  rw [Ok_gd, Ok_pif, t_eq, hpos, h3]
  refine ⟨h.1.1.1, fun c => ?_, fun c => Ok.bc (w_isDigit h.1 hpos) (fun hg => ?_) (fun hg => ?_)⟩
  · rw [Ok_gd]
    refine ⟨h.1.1.1, bad (by decide) (fun q => ?_)⟩
    have k0 : k = 0 := by omega
    subst k0
    have := q.1.1.d
    rcases hend with r | r
    · omega
    · exact r this
  · rw [Ok_pif]
    refine ⟨fun q => absurd q (by decide), fun _ => ?_⟩
    rw [Ok_gd]
    refine ⟨h.1.1.1, bad (by decide) (fun q => ?_)⟩
    have k2 : k = 2 := hend.resolve_right (fun r => r hg)
    have r1 := (rn_run dgt f n s).2.2
    have : s + 3 ≤ rn dgt f n s := by
      rcases Nat.lt_or_ge (rn dgt f n s) (s + 3) with q3 | q3
      · exfalso
        apply r1
        have hge := rn_ge dgt f n s
        obtain ⟨j, hj⟩ : ∃ j, rn dgt f n s = s + j := ⟨rn dgt f n s - s, by omega⟩
        rw [hj]
        rcases Nat.lt_or_ge j k with q4 | q4
        · exact ⟨by omega, hd j q4⟩
        · rw [show j = k by omega]; exact hg
      · exact q3
    have := q.1.1.1
    omega
  · have er : s + k = rn dgt f n s := run.eq ⟨by omega, fun j j1 j2 => ⟨by omega, by have := hd (j - s) (by omega); rw [show s + (j - s) = j by omega] at this; exact this⟩, hg⟩
    have ek : rn dgt f n s - s = k := by omega
    have hNum : NumG f n s ↔ 1 ≤ l4.toInt ∧ l4.toInt ≤ 30 := by
      unfold NumG
      rw [ek, h4]
      exact ⟨fun q => q.2, fun q => ⟨hk, q⟩⟩
    rw [Ok_pif]
    refine ⟨fun _ => ?_, fun q => absurd rfl q⟩
    simp only [Ok_pif, Ok_gd, Ok_ono]
    rw [t_lt, t_le, show (1 : Int32).toInt = 1 from rfl, show (30 : Int32).toInt = 30 from rfl]
    refine ⟨fun c1 => ⟨h.1.1.1, bad (by decide) (fun q => by have := hNum.mp q.1.1; omega)⟩, fun c1 => ⟨fun c30 => ⟨mk, rfl, hM.1.1, ?_⟩, fun c30 => ⟨h.1.1.1, bad (by decide) (fun q => by have := hNum.mp q.1.1; omega)⟩⟩⟩
    have hG : NumG f n s := hNum.mpr ⟨by omega, c30⟩
    obtain ⟨num, en⟩ : ∃ num, num = (dvN f s (rn dgt f n s - s)).toNat := ⟨_, rfl⟩
    have hnum : l4.toInt = num := by rw [en, ek, h4]; omega
    refine Ok.call (w_fieldAt hM hnum (by omega)) (fun r t ht => ?_)
    obtain ⟨t1, t2⟩ := ht
    have t1 : t = g := t1
    have t2 : r = none ↔ ¬ seenN L num := t2
    subst t1
    simp only [Ok_pif, Ok_gd, Ok_ono, Ok_nam]
    refine ⟨fun cn => ⟨F, rfl, hO.1, ?_⟩, fun cn => bad (by decide) (fun q => cn (t2.mpr (by rw [en]; exact q.1.2)))⟩
    have hns := t2.mp cn
    have hnl := hO.nlb h.1
    have e1 : Tf F 0 0 t (wI t F 0 l4) := Tf.wFI (by omega)
    have e2 : TrI f n (wI t F 0 l4) := h.1.fr e1 (h.1.2.2.2.2.2.i (by omega) hnl) (Or.inr hF106)
    have e45 : qI (wI t F 0 l4) 45 = qI t 45 := qI_wo (by omega)
    have e3 : Tr f n (s + k) (wI t F 0 l4) := ⟨e2, by rw [e45]; exact hpos, by rw [e45]; exact h.2.2⟩
    refine Ok.bc (w_isLetter e2 e3.2.1) (fun hl => ?_) (fun hl => ?_)
    · rw [Ok_pif]
      refine ⟨fun q => absurd q (by decide), fun _ => Ok.call (w_bad e2 ((hFr.up (F := F)).tr e1) (by decide)) (fun r' u hu => ?_)⟩
      have hr : r' = 0 := hu.1
      rw [hr, Ok_pif]
      refine ⟨fun _ => ?_, fun q => absurd rfl q⟩
      rw [Ok_some]
      exact Or.inr ⟨fun q => q.2 (by rw [← er]; exact hl), rfl, hu.2.1.le (by omega) (by omega), hu.2.2⟩
    · rw [Ok_pif]
      refine ⟨fun _ => ?_, fun q => absurd rfl q⟩
      rw [Ok_some]
      refine Or.inl ⟨⟨⟨hG, by rw [← en]; exact hns⟩, by rw [← er]; exact hl⟩, rfl, ((hFr.up (F := F)).tr e1).le (by omega) (by omega), by rw [← er]; exact e3, ?_, fun j hj => ?_, keep.2.1, keep.2.2⟩
      · show (qI (wI t F 0 l4) F 0).toInt = _
        rw [qI_wI, if_pos rfl, if_pos rfl, ← en]; exact hnum
      · show qI (wI t F 0 l4) F j = _
        rw [qI_wI, if_pos rfl, if_neg hj, keep.1]
theorem w_num11 (f : Nat → Int32) (n F s mk ar : Nat) (L : List FdT) (l3 : Int32) (g0 : CS) (hs : s ≤ n) (hM : MbI f L mk ar g0) (hO0 : FO g0 F) (hT0 : TrI f n g0) (h3 : l3.toInt = s) : ∀ (z k : Nat) (x l4 : Int32) (g : CS), x.toInt = k → k ≤ 2 → 2 - k < z → Tr f n (s + k) g → Tf 46 0 0 g0 g → l4.toInt = dvN f s k → (∀ j, j < k → dgt (f (s + j))) → s + k ≤ n → Ok (fX6_takeNumber_11 45 z (some F) (some mk) l3 l4 x g) (NuP f n L F s g0) := by
  intro z
  induction z with
  | zero => intro k x l4 g a b c; omega
  | succ z ih =>
    intro k x l4 g hx hk hz hT hF h4 hd hkn
    have hn4 := hT.1.n400
    have hpos := hT.2.1
    have e := inc (x := x) (by omega) (by omega)
    have e3 := inc (x := qI g 45 3) (by omega) (by omega)
    have dv := dvN_2 hk hd
    have hMg : MbI f L mk ar g := hM.f0 hF hT0
    have fin : (k = 2 ∨ ¬ (s + k < n ∧ dgt (f (s + k)))) → Ok (fX6_takeNumber_60 45 (some F) (some mk) l3 l4 g) (NuP f n L F s g0) := fun he => w_num60 hs hT hMg (hO0.fr hF) hF hO0 hT0 h3 h4 hk hd hkn he
    rw [fX6_takeNumber_11_s]
    generalize x + 1 = x' at e ⊢
    rw [Ok_pif, t_le, hx, show (2 : Int32).toInt = 2 from rfl]
    refine ⟨fun c => fin (Or.inl (by omega)), fun c => ?_⟩
    rw [Ok_gd]
    refine ⟨hT.1.1.1, Ok.bc (w_isDigit hT.1 hpos) (fun hg => ?_) (fun hg => ?_)⟩
    · rw [Ok_pif]
      refine ⟨fun q => absurd q (by decide), fun _ => Ok.call (w_digitAt hT.1 hpos) (fun r t ht => ?_)⟩
      obtain ⟨t1, t2⟩ := ht
      have t1 : t = g := t1
      subst t1
      have t2 : r.toInt = (f (s + k)).toInt - 48 := by
        rcases t2 with q | q
        · exact q.2
        · exact absurd hg q.1
      simp only [Ok_nam]
      obtain ⟨g1, g2⟩ := hT.go (d := 1) (x := qI t 45 3 + 1) (by omega)
      have hdg := hg.2
      unfold dgt at hdg
      refine ih (k + 1) x' _ _ (by omega) (by omega) (by omega) g1 ((hF.tr g2).le (by omega) (by omega)) ?_ (fun j hj => ?_) (by omega)
      · have e10 : (l4 * 10).toInt = l4.toInt * 10 := by rw [t_mul (by show -2147483648 ≤ l4.toInt * 10; omega) (by show l4.toInt * 10 < 2147483648; omega)]; rfl
        rw [t_add (by omega) (by omega), e10, t2, h4]
        show _ = 10 * dvN f s k + (f (s + k)).toInt - 48
        omega
      · by_cases cj : j = k
        · rw [cj]; exact hg.2
        · exact hd j (by omega)
    · rw [Ok_pif]
      exact ⟨fun _ => fin (Or.inr hg), fun q => absurd rfl q⟩
theorem w_takeNumber {f : Nat → Int32} {n F s mk ar : Nat} {L : List FdT} {g : CS} (hs : s ≤ n) (h : Tr f n s g) (hM : MbI f L mk ar g) (hO : FO g F) : Ok (fX6_takeNumber 45 (some F) (some mk) g) (NuP f n L F s g) := by
  unfold fX6_takeNumber
  simp only [Ok_gd, Ok_nam]
  exact ⟨h.1.1.1, w_num11 f n F s mk ar L _ g hs hM hO h.1 h.2.1 fuel 0 0 0 g rfl (by omega) (by unfold fuel; omega) h Tf.rf rfl (fun j hj => absurd hj (by omega)) (by omega)⟩
/-! the name -/
def CM (f : Nat → Int32) (L : List FdT) (w e2 : Nat) : Prop := (1 ≤ e2 - w ∧ e2 - w ≤ 8) ∧ (wEq f w e2 [103, 111, 110, 101] ∨ kdW f w e2 = 0 ∧ ¬ seenW f L w e2)
def NaP (f : Nat → Int32) (n : Nat) (L : List FdT) (F w e2 : Nat) (g : CS) (q : Int32 × CS) : Prop := (CM f L w e2 ∧ q.1 = 1 ∧ Tf F 2 4 g q.2 ∧ Tr f n e2 q.2 ∧ qI q.2 F = qI g F ∧ qJ q.2 F = qJ g F ∧ (∀ j, j ≠ 4 → qP q.2 F j = qP g F j) ∧ (wEq f w e2 [103, 111, 110, 101] → qP q.2 F 4 = qP g F 4) ∧ (¬ wEq f w e2 [103, 111, 110, 101] → ∃ s, qP q.2 F 4 = some s ∧ StC f w (e2 - w) s q.2)) ∨ (¬ CM f L w e2 ∧ Bd f n F 2 4 g q)
theorem w_len {f : Nat → Int32} {a l s : Nat} {g : CS} (h : StC f a l s g) : Ok (fJ0_length_8abf5 s g) (fun q => q.1.toInt = l ∧ q.2 = g) := by
  obtain ⟨h0, c, c1, c2, c3, c4⟩ := id h
  obtain ⟨s1, s2, s3, c0, s4, s5, s6, s7⟩ := id h0
  have e1 : c0 = c := by rw [s4] at c1; cases c1; rfl
  subst e1
  unfold fJ0_length_8abf5
  simp only [Ok_gd, Ok_ono]
  refine ⟨s1, c0, s4, s5, Ok.same (c_coder h0) (fun r hr => ?_)⟩
  have hr : r = 0 := hr
  rw [Ok_some, hr, sh0, c2]
  exact ⟨e_nI (by omega), rfl⟩
theorem w_empty {f : Nat → Int32} {a l s : Nat} {g : CS} (h : StC f a l s g) : Ok (fJ0_isEmpty_aae02 s g) (BC (l = 0) g) := by
  obtain ⟨h0, c, c1, c2, c3, c4⟩ := id h
  obtain ⟨s1, s2, s3, c0, s4, s5, s6, s7⟩ := id h0
  have e1 : c0 = c := by rw [s4] at c1; cases c1; rfl
  subst e1
  unfold fJ0_isEmpty_aae02
  simp only [Ok_gd, Ok_ono, Ok_pif, Ok_some]
  refine ⟨s1, c0, s4, s5, fun q => Or.inl ⟨?_, rfl⟩, fun q => Or.inr ⟨fun r => q ?_, rfl⟩⟩
  · rw [t_eq, e_nI (by omega), c2, show (0 : Int32).toInt = 0 from rfl] at q
    omega
  · rw [t_eq, e_nI (by omega), c2, r]
    rfl
theorem w_takeName {f : Nat → Int32} {n F p mk ar : Nat} {L : List FdT} {g : CS} (hp : p ≤ n) (h : Tr f n p g) (hM : MbI f L mk ar g) (hO : FO g F) : Ok (fX6_takeName 45 (some F) (some mk) g) (NaP f n L F (rn blk f n p) (rn ltr f n (rn blk f n p)) g) := by
  have hn4 := h.1.n400
  have hF106 := hO.2.1
  unfold fX6_takeName fX6_takeName_4
  rw [Ok_gd]
  refine ⟨h.1.1.1, Ok.callv (w_skip h hp) (fun u hu => ?_)⟩
  obtain ⟨u1, u2⟩ := hu
  have hw := rn_le blk f hp
  generalize rn blk f n p = w at *
  simp only [Ok_gd, Ok_nam]
  refine ⟨u1.1.1.1, Ok.call (w_takeWord u1 hw) (fun r t ht => ?_)⟩
  obtain ⟨s, e1, e2, e3, e4, e5⟩ := ht
  have e1 : r = some s := e1
  have he := rn_le ltr f hw
  have heg := rn_ge ltr f n w
  generalize rn ltr f n w = e at *
  have hT : Tf 46 2 4 g t := (u2.tr e4).le (by omega) (by omega)
  have hMt := hM.f0 hT h.1
  have hOt := hO.fr hT
  have keep := hO.s h.1 hT
  have bad : ∀ {w' x : Int32}, w' ≠ 0 → ¬ CM f L w e → Ok (bnd (fX6_refuse 45 w' x t) (fun r t => gd (narrow .boolean (.int r) = .int r) (some (r, t)))) (NaP f n L F w e g) := fun hw hc => (w_badN e3.1 hT.up hw).mono (fun q hq => Or.inr ⟨hc, hq⟩)
  unfold fX6_takeName_13
  rw [e1]
  simp only [Ok_gd, Ok_ono]
  refine ⟨s, rfl, e5.1.1, Ok.bc (w_empty e5) (fun c0 => ?_) (fun c0 => ?_)⟩
  · unfold fX6_takeName_20 fX6_takeName_29
    rw [Ok_pif]
    refine ⟨fun q => absurd q (by decide), fun _ => ?_⟩
    rw [Ok_gd]
    exact ⟨e3.1.1.1, bad (by decide) (fun q => by have := q.1; omega)⟩
  unfold fX6_takeName_20
  rw [Ok_pif]
  refine ⟨fun _ => ?_, fun q => absurd rfl q⟩
  simp only [Ok_gd, Ok_ono]
  refine ⟨s, rfl, e5.1.1, Ok.call (w_len e5) (fun l t' ht' => ?_)⟩
  obtain ⟨l1, l2⟩ := ht'
  have l1 : l.toInt = (e - w : Nat) := l1
  have l2 : t' = t := l2
  subst l2
  unfold fX6_takeName_35 fX6_takeName_49
  rw [Ok_pif, t_le, l1, show (8 : Int32).toInt = 8 from rfl]
  refine ⟨fun c8 => ?_, fun c8 => ?_⟩
  · simp only [Ok_gd, Ok_ono]
    refine ⟨s, rfl, e5.1.1, Ok.bc (w_isWord 1 [103, 111, 110, 101] e5 e3.1.2.2.2.2.1 e3.1.2.2.2.2.2 (by decide) rfl rfl) (fun cg => ?_) (fun cg => ?_)⟩
    · unfold fX6_takeName_57
      rw [Ok_pif]
      refine ⟨fun q => absurd q (by decide), fun _ => ?_⟩
      rw [Ok_some]
      exact Or.inl ⟨⟨⟨by omega, by omega⟩, Or.inl cg⟩, rfl, hT.up, e3, keep.1, keep.2.1, fun j _ => by rw [keep.2.2], fun _ => by rw [keep.2.2], fun q => absurd cg q⟩
    · unfold fX6_takeName_57
      rw [Ok_pif]
      refine ⟨fun _ => Ok.call (w_kindOf e5 e3.1.2.2.2.2.1 e3.1.2.2.2.2.2) (fun k t'' hk => ?_), fun q => absurd rfl q⟩
      cases hk
      have hk6 := kdW_r f w e
      have hkz : Int32.ofNat (kdW f w e) = 0 ↔ kdW f w e = 0 := by
        rw [t_eq, t_nI (by omega), show (0 : Int32).toInt = 0 from rfl]
        omega
      unfold fX6_takeName_67 fX6_takeName_76
      rw [Ok_pif, hkz]
      refine ⟨fun ck => ?_, fun ck => ?_⟩
      · simp only [Ok_gd, Ok_ono]
        refine ⟨mk, rfl, hMt.1.1, Ok.bc (w_hasName hMt e5 (by omega)) (fun cs => ?_) (fun cs => ?_)⟩
        · unfold fX6_takeName_83 fX6_takeName_92
          rw [Ok_pif]
          refine ⟨fun q => absurd q (by decide), fun _ => ?_⟩
          rw [Ok_gd]
          exact ⟨e3.1.1.1, bad (by decide) (fun q => q.2.elim cg (fun r => r.2 cs))⟩
        · unfold fX6_takeName_83
          rw [Ok_pif]
          refine ⟨fun _ => ?_, fun q => absurd rfl q⟩
          simp only [Ok_gd, Ok_ono, Ok_nam, Ok_some]
          have f1 : Tf F 0 0 t' (wP t' F 4 (some s)) := Tf.wFP (by omega)
          have f2 : TrI f n (wP t' F 4 (some s)) := e3.1.fr f1 (e3.1.2.2.2.2.2.p (by omega)) (Or.inr hF106)
          refine ⟨F, rfl, hOt.1, Or.inl ⟨⟨⟨by omega, by omega⟩, Or.inr ⟨ck, cs⟩⟩, rfl, ((hT.up (F := F)).tr f1).le (by omega) (by omega), ⟨f2, e3.2.1, e3.2.2⟩, keep.1, keep.2.1, fun j hj => ?_, fun q => absurd q cg, fun _ => ⟨s, ?_, e5.fr f1 e3.1.1.1 e3.1.2.2.2.2.2 hOt.wr⟩⟩⟩
          · show qP (wP t' F 4 (some s)) F j = _
            rw [qP_wP, if_pos rfl, if_neg hj, keep.2.2]
          · show qP (wP t' F 4 (some s)) F 4 = _
            rw [qP_wP, if_pos rfl, if_pos rfl]
      · rw [Ok_gd]
        exact ⟨e3.1.1.1, bad (by decide) (fun q => q.2.elim cg (fun r => ck r.1))⟩
  · rw [Ok_gd]
    exact ⟨e3.1.1.1, bad (by decide) (fun q => by have := q.1; omega)⟩
