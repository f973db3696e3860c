theorem SndS.same {st : RS} {f g : Nat → Int32} : ∀ (z m a b : Nat), (∀ i, a ≤ i → i < b → g i = f i) → SndS st f z m a b → SndS st g z m a b := by
  intro z
  induction z with
  | zero => intro m a b _ h; exact h
  | succ z ih =>
    intro m a b he h
    rcases h with h | ⟨k1, k2, h1, h2, h3, h4, h5, h6⟩
    · exact Or.inl h
    · have l1 := h1.2.2
      have e1 : vacc g a k1 = vacc f a k1 := vacc_same k1 (fun i hi => he _ (by omega) (by omega))
      have e2 : vacc g (a + k1) k2 = vacc f (a + k1) k2 := vacc_same k2 (fun i hi => he _ (by omega) (by omega))
      have r := pto_r (vacc f a k1) (vacc f (a + k1) k2) (a + k1 + k2) b l1
      refine Or.inr ⟨k1, k2, ⟨h1.1.same (fun i hi => he _ (by omega) (by omega)), h1.2.1.same (fun i hi => he _ (by omega) (by omega)), l1⟩, ?_⟩
      rw [e1, e2]
      exact ⟨h2, h3, h4, ih _ _ _ (fun i hi hj => he i (by omega) hj) h5, fun q1 q2 => ih _ _ _ (fun i hi hj => he i (by omega) (by omega)) (h6 q1 q2)⟩
theorem Snd.same {st : RS} {f g : Nat → Int32} {m a b : Nat} (h : Snd st f m a b) (he : ∀ i, a ≤ i → i < b → g i = f i) : Snd st g m a b := by
  obtain ⟨z, hz⟩ := h
  exact ⟨z, SndS.same z m a b he hz⟩
/-- what was laid comes to record r -/
theorem r_comes2 (r : Int32) (st : RS) (len : Nat) (h1 : 0 ≤ r.toInt) (h2 : r.toInt < 4) (hl : LyN st 0 len) (h3 : len ≤ 120) (hR : RcI st) : ∀ (z i : Nat) (x : Int32) (t : RS), x.toInt = i → i ≤ len → len - i < z → Fr [] [28] st t → Ok (x9_comes_2 z r x t) (fun t => Fr [] [28, 29] st t ∧ RcI t) := by
  intro z
  induction z with
  | zero => intro i x t a b c; omega
  | succ z ih =>
    intro i x t hx hi hz hF
    have e53 : gF t 53 = gF st 53 := (hF.2 53 (by decide)).1
    have e29 : gF t 29 = gF st 29 := (hF.2 29 (by decide)).1
    have l53 := hl.i (by omega)
    have z0 : (0 : Int32).toInt = 0 := rfl
    have zn : (0 : Int32).toNatClampNeg = 0 := rfl
    have em : (120 * r).toInt = 120 * r.toInt := by
      rw [t_mul (by show -2147483648 ≤ 120 * r.toInt; omega) (by show 120 * r.toInt < 2147483648; omega)]
      rfl
    have ea : (120 * r + x).toInt = 120 * r.toInt + i := by rw [t_add (by omega) (by omega), em, hx]
    have e : (x + 1).toInt = x.toInt + 1 := by rw [t_add (by show -2147483648 ≤ x.toInt + 1; omega) (by show x.toInt + 1 < 2147483648; omega)]; rfl
    rw [x9_comes_2_s]
    generalize x + 1 = x' at e ⊢
    simp only [Ok_pif, Ok_gd, Ok_nam, Ok_some, t_in, t_le, z0, zn, e53, l53, ea]
    refine ⟨by omega, fun c => ⟨by omega, by omega, ⟨(hF.d rfl rfl).sF (by decide), fun q hq => ?_⟩⟩, fun c => ⟨by omega, by omega, ih (i + 1) x' _ (by omega) (by omega) (by omega) (hF.sF (by decide))⟩⟩
    show 0 ≤ (upd (gF t 29) r.toNatClampNeg (gF st 53 0) q).toInt ∧ (upd (gF t 29) r.toNatClampNeg (gF st 53 0) q).toInt ≤ 120
    by_cases q2 : q = r.toNatClampNeg
    · rw [upd_eq q2, l53]; omega
    · rw [upd_ne q2, e29]; exact hR q hq
theorem r_comes {r : Int32} {st : RS} {len : Nat} (h1 : 0 ≤ r.toInt) (h2 : r.toInt < 4) (hl : LyN st 0 len) (h3 : len ≤ 120) (hR : RcI st) : Ok (x9_comes r st) (fun t => Fr [] [28, 29] st t ∧ RcI t) := r_comes2 r st len h1 h2 hl h3 hR fuel 0 0 st rfl (by omega) (by unfold fuel; omega) Fr.rf
theorem r_keeps12 (st : RS) (len : Nat) (h56 : (gI st 56).toInt = len) (h3 : len ≤ 200) : ∀ (z i : Nat) (x : Int32) (t : RS), x.toInt = i → i ≤ len → len - i < z → Fr [] [55] st t → Ok (x9_keepsFresh_12 z x t) (fun t => Fr [] [55] st t) := by
  intro z
  induction z with
  | zero => intro i x t a b c; omega
  | succ z ih =>
    intro i x t hx hi hz hF
    have e56 : gI t 56 = gI st 56 := (hF.1 56 (by decide)).1
    have e : (x + 1).toInt = x.toInt + 1 := by rw [t_add (by show -2147483648 ≤ x.toInt + 1; omega) (by show x.toInt + 1 < 2147483648; omega)]; rfl
    rw [x9_keepsFresh_12_s]
    generalize x + 1 = x' at e ⊢
    simp only [Ok_pif, Ok_gd, Ok_nam, Ok_some, t_in, t_le, e56, h56]
    exact ⟨fun c => hF, fun c => ⟨by omega, by omega, ih (i + 1) x' _ (by omega) (by omega) (by omega) (hF.sF (by decide))⟩⟩
theorem r_keepsFresh {st : RS} {len : Nat} (hl : LyN st 0 len) (h3 : len ≤ 200) : Ok (x9_keepsFresh st) (fun t => Fr [56] [55] st t ∧ (gI t 56).toInt = len) := by
  unfold x9_keepsFresh
  have l53 := hl.i (by omega)
  simp only [Ok_gd, Ok_nam, t_in]
  refine ⟨by decide, ?_⟩
  obtain ⟨s1, es⟩ : ∃ s1, s1 = sI st 56 (gF st 53 (0 : Int32).toNatClampNeg) := ⟨_, rfl⟩
  rw [← es]
  have h56 : (gI s1 56).toInt = len := by rw [es]; exact l53
  refine (r_keeps12 s1 len h56 h3 fuel 0 0 s1 rfl (by omega) (by unfold fuel; omega) Fr.rf).mono (fun t ht => ⟨?_, ?_⟩)
  · have h : Fr [56] [55] st s1 := by rw [es]; exact Fr.rf.sI (by decide)
    exact h.tr (ht.d rfl rfl)
  · rw [(ht.1 56 (by decide)).1]; exact h56
/-- what puts() may change -/
def puI : List Nat := [31, 32, 33, 34, 35, 36, 37, 38]
def puF : List Nat := [28, 29, 30, 47, 48, 49, 50, 51, 52, 53, 54]
def PuP (st0 : RS) (q : Int32 × RS) : Prop := Fr puI puF st0 q.2 ∧ RcI q.2
theorem r_puts284 {st0 st : RS} {r : Int32} {len : Nat} (h1 : 0 ≤ r.toInt) (h2 : r.toInt < 4) (hF : Fr puI puF st0 st) (hR : RcI st) (hl : LyN st 0 len) (hl2 : len ≤ 1000) : Ok (x9_puts_284 r st) (PuP st0) := by
  have l53 := hl.i (by omega)
  unfold x9_puts_284
  simp only [Ok_gd, Ok_pif, Ok_some, t_in]
  refine ⟨by decide, fun c => ?_, fun _ => ⟨hF, hR⟩⟩
  rw [t_le, show (0 : Int32).toNatClampNeg = 0 from rfl, l53, show (120 : Int32).toInt = 120 from rfl] at c
  refine Ok.callv (r_comes h1 h2 hl (by omega) hR) (fun t ht => ?_)
  simp only [Ok_gd, Ok_some, t_in]
  exact ⟨by omega, hF.tr (ht.1.d (by decide) (by decide)), ht.2⟩
theorem r_puts257 (st0 : RS) (r : Int32) (fl : Nat) (h1 : 0 ≤ r.toInt) (h2 : r.toInt < 4) (hfl : fl ≤ 200) : ∀ (z i : Nat) (x : Int32) (st : RS) (len : Nat), x.toInt = i → i ≤ fl → fl - i < z → (gI st 56).toInt = fl → Fr puI puF st0 st → RcI st → LyN st 0 len → len + (fl - i) ≤ 1000 → Ok (x9_puts_257 z r x st) (PuP st0) := by
  intro z
  induction z with
  | zero => intro i x st len a b c; omega
  | succ z ih =>
    intro i x st len hx hi hz h56 hF hR hl hb
    have e : (x + 1).toInt = x.toInt + 1 := by rw [t_add (by show -2147483648 ≤ x.toInt + 1; omega) (by show x.toInt + 1 < 2147483648; omega)]; rfl
    rw [x9_puts_257_s]
    generalize x + 1 = x' at e ⊢
    simp only [Ok_pif, Ok_gd, t_in, t_le, h56]
    refine ⟨fun c => r_puts284 h1 h2 hF hR hl (by omega), fun c => ⟨by omega, Ok.callv (r_lays (l := 0) (n := len) (by decide) (by decide) hl (by show 160 * 0 + len < 1440; omega)) (fun u hu => ?_)⟩⟩
    obtain ⟨hu1, -⟩ := hu
    rw [Ok_nam]
    exact ih (i + 1) x' u (len + 1) (by omega) (by omega) (by omega) (by rw [(hu1.1.1 56 (by decide)).1]; exact h56) (hF.tr (hu1.1.d (by decide) (by decide))) (hR.fr (hu1.1.2 29 (by decide)).1) hu1.2.1 (by omega)
/-- a copy of fresh bytes at level 0 -/
theorem r_puts170 (P : Int32 × RS → Prop) (k : Int32 → Int32 → Int32 → Int32 → Int32 → Int32 → Int32 → RS → Option (Int32 × RS)) (l1 l2 l3 l4 l5 l7 l8 l9 : Int32) (st : RS) (fl n : Nat) (hfl : fl ≤ 200) (h56 : (gI st 56).toInt = fl) (hn : n + fl ≤ 1000)
    (hk : ∀ t, LaP st 0 n fl t → Ok (x9_puts_200 k l1 l2 l3 l4 l5 1 l7 l8 l9 t) P) : ∀ (z i : Nat) (x : Int32) (t : RS), x.toInt = i → i ≤ fl → fl - i < z → LaP st 0 n i t → Ok (x9_puts_170 k z l1 l2 l3 l4 l5 l7 l8 l9 x t) P := by
  intro z
  induction z with
  | zero => intro i x t a b c; omega
  | succ z ih =>
    intro i x t hx hi hz hP
    have e : (x + 1).toInt = x.toInt + 1 := by rw [t_add (by show -2147483648 ≤ x.toInt + 1; omega) (by show x.toInt + 1 < 2147483648; omega)]; rfl
    have e56 : (gI t 56).toInt = fl := by rw [(hP.1.1 56 (by decide)).1]; exact h56
    rw [x9_puts_170_s]
    generalize x + 1 = x' at e ⊢
    simp only [Ok_pif, Ok_gd, t_in, t_le, e56]
    refine ⟨fun c => ?_, fun c => ⟨by omega, Ok.callv (r_lays (l := 0) (n := n + i) (by decide) (by decide) hP.2.1 (by show 160 * 0 + (n + i) < 1440; omega)) (fun u hu => ?_)⟩⟩
    · have : i = fl := by omega
      subst this
      exact hk t hP
    · rw [Ok_nam]
      exact ih (i + 1) x' u (by omega) (by omega) (by omega) (hP.tr hu.1)
theorem r_puts217 (P : Int32 × RS → Prop) (k : Int32 → Int32 → Int32 → Int32 → Int32 → Int32 → Int32 → RS → Option (Int32 × RS)) (l1 l2 l3 l4 l5 l6 l8 : Int32) (st : RS) (p q n : Nat) (h8 : l8.toInt = q) (hpq : p ≤ q) (hq : q ≤ 160) (hn : n + (q - p) ≤ 1000)
    (hk : ∀ t, LaP st 0 n (q - p) t → Ok (k l1 l2 l3 l4 l5 l6 l8 t) P) : ∀ (z i : Nat) (x : Int32) (t : RS), x.toInt = (p + i : Nat) → i ≤ q - p → q - p - i < z → LaP st 0 n i t → Ok (x9_puts_217 k z l1 l2 l3 l4 l5 l6 l8 x t) P := by
  intro z
  induction z with
  | zero => intro i x t a b c; omega
  | succ z ih =>
    intro i x t hx hi hz hP
    have e : (x + 1).toInt = x.toInt + 1 := by rw [t_add (by show -2147483648 ≤ x.toInt + 1; omega) (by show x.toInt + 1 < 2147483648; omega)]; rfl
    rw [x9_puts_217_s]
    generalize x + 1 = x' at e ⊢
    simp only [Ok_pif, Ok_gd, t_in, t_le, h8]
    refine ⟨fun c => ?_, fun c => ⟨by omega, Ok.callv (r_lays (l := 0) (n := n + i) (by decide) (by decide) hP.2.1 (by show 160 * 0 + (n + i) < 1440; omega)) (fun u hu => ?_)⟩⟩
    · have : i = q - p := by omega
      subst this
      unfold x9_puts_242
      exact hk t hP
    · rw [Ok_nam]
      exact ih (i + 1) x' u (by omega) (by omega) (by omega) (hP.tr hu.1)
theorem LaP.row {st t : RS} {L n k : Nat} (h : LaP st L n k t) {j : Nat} (hj : j ≠ 52) (hj2 : j ≠ 53) : gF t j = gF st j := (h.1.2 j (by simp [hj, hj2])).1
set_option maxHeartbeats 4000000 in
theorem r_puts80 (st0 : RS) (r m x4 : Int32) (fl N : Nat) (c : Nat → Nat) (f : Nat → Int32) (h1 : 0 ≤ r.toInt) (h2 : r.toInt < 4) (hm1 : 0 ≤ m.toInt) (hm2 : m.toInt < 8) (hfl : fl ≤ 200) (h4 : x4.toInt = c N) (hN : c N ≤ 120) (hc0 : c 0 = 0) (hc : ∀ i, i < N → Pc1 f (c i) (c (i + 1))) (l3 l5 : Int32) : ∀ (z i : Nat) (l6 x : Int32) (st : RS) (len : Nat), i ≤ N → N - i < z → x.toInt = c i → (gI st 56).toInt = fl → gF st 30 = f → Fr puI puF st0 st → RcI st → LyN st 0 len → (len ≤ c i + 200 ∧ (l6 = 0 → len ≤ c i)) → Ok (x9_puts_80 z r m l3 x4 l5 l6 x st) (PuP st0) := by
  intro z
  induction z with
  | zero => intro i l6 x st len a b; omega
  | succ z ih =>
    intro i l6 x st len hi hz hx h56 h30 hF hR hl hb
    have mono := cuts_mono hc N (Nat.le_refl _) i hi
    rw [x9_puts_80_s]
    simp only [Ok_pif]
    rw [t_le, h4, hx]
    refine ⟨fun q => ⟨fun _ => r_puts257 st0 r fl h1 h2 hfl fuel 0 0 st len rfl (by omega) (by unfold fuel; omega) h56 hF hR hl (by omega), fun _ => r_puts284 h1 h2 hF hR hl (by omega)⟩, fun q => ?_⟩
    have hiN : i < N := by
      rcases Nat.lt_or_ge i N with h | h
      · exact h
      · rw [show i = N by omega] at q; omega
    have hp1 := hc i hiN
    have mono2 := cuts_mono hc N (Nat.le_refl _) (i + 1) (by omega)
    have hlt := hp1.lt
    refine Ok.callv (r_piece (by omega) (by omega) (by omega) hm1 hm2) (fun u hu => ?_)
    obtain ⟨hFu, hu⟩ := hu
    rw [h30] at hu
    have xn : x.toNatClampNeg = c i := by rw [t_nat]; omega
    have x4n : x4.toNatClampNeg = c N := by rw [t_nat]; omega
    rw [xn, x4n] at hu
    obtain ⟨k1, k2, hK, hs, hg⟩ := hp1
    have hK2 : PcK f (c i) (c N) k1 k2 := ⟨hK.1, hK.2.1, by have := hK.2.2; omega⟩
    rcases hu with ⟨j1, j2, hK', hV, -⟩ | ⟨-, hu⟩
    case inr => exact absurd hK2 (hu k1 k2)
    obtain ⟨rfl, rfl⟩ := hK2.uniq hK'
    obtain ⟨v33, v34, v35, v37, v36⟩ := hV
    have eto : pto (vacc f (c i) j1) (vacc f (c i + j1) j2) (c i + j1 + j2) (c N) = (c (i + 1) : Nat) := by
      unfold pto
      by_cases q1 : plg (vacc f (c i) j1)
      · have := hg q1
        have := hK.2.2
        rw [pif_pos ⟨q1, fun q2 => by rcases q2.2 with q3 | q3 <;> omega⟩]
        omega
      · rw [pif_neg (fun q2 => q1 q2.1)]
        have := hs q1
        omega
    rw [eto] at v36
    have pr := pnum_r (vacc f (c i) j1)
    have u56 : (gI u 56).toInt = fl := by rw [(hFu.1 56 (by decide)).1]; exact h56
    have u30 : gF u 30 = f := ((hFu.2 30 (by decide)).1).trans h30
    have hFu2 : Fr puI puF st0 u := hF.tr (hFu.d (by decide) (by decide))
    have hRu : RcI u := hR.fr (hFu.2 29 (by decide)).1
    have hlu : LyN u 0 len := by unfold LyN; rw [(hFu.2 53 (by decide)).1]; exact hl
    have u33 : 0 ≤ (gI u 33).toInt ∧ (gI u 33).toInt ≤ 30 := by rw [v33]; exact pr
    rw [Ok_nam]
    generalize gI u 36 = en at v36 ⊢
    -- the next piece
    have next : ∀ (l6' : Int32) (t : RS) (len' : Nat), Fr [] [52, 53] u t → LyN t 0 len' → (len' ≤ c (i + 1) + 200 ∧ (l6' = 0 → len' ≤ c (i + 1))) → Ok (x9_puts_80 z r m l3 x4 l5 l6' en t) (PuP st0) := fun l6' t len' hFt hlt hb' => ih (i + 1) l6' en t len' (by omega) (by omega) v36 (by rw [(hFt.1 56 (by decide)).1]; exact u56) (((hFt.2 30 (by decide)).1).trans u30) (hFu2.tr (hFt.d (by decide) (by decide))) (hRu.fr (hFt.2 29 (by decide)).1) hlt hb'
    have p200 : ∀ (l6' s0 : Int32) (t : RS) (len' : Nat), Fr [] [52, 53] u t → LyN t 0 len' → (len' ≤ c i + 200 ∧ (l6' = 0 → len' ≤ c i)) → Ok (x9_puts_200 (x9_puts_80 z) r m l3 x4 l5 l6' x en s0 t) (PuP st0) := by
      intro l6' s0 t len' hFt hlt hb'
      unfold x9_puts_200
      have hno : Ok (x9_puts_242 (x9_puts_80 z) r m l3 x4 l5 l6' en t) (PuP st0) := by
        unfold x9_puts_242
        exact next l6' t len' hFt hlt ⟨by omega, fun h => by have := hb'.2 h; omega⟩
      simp only [Ok_pif]
      refine ⟨fun _ => hno, fun _ => ⟨fun _ => ?_, fun _ => hno⟩⟩
      refine r_puts217 (PuP st0) (x9_puts_80 z) r m l3 x4 l5 l6' en t (c i) (c (i + 1)) len' v36 (by omega) (by omega) (by omega) (fun w hw => next l6' w (len' + (c (i + 1) - c i)) (hFt.tr hw.1) hw.2.1 ⟨by omega, fun h => by have := hb'.2 h; omega⟩) fuel 0 x t (by rw [hx]; rfl) (by omega) (by unfold fuel; omega) (LaP.rf hlt)
    have p152 : ∀ s0 : Int32, Ok (x9_puts_152 (x9_puts_80 z) r m l3 x4 l5 l6 x en s0 u) (PuP st0) := by
      intro s0
      unfold x9_puts_152
      simp only [Ok_pif]
      refine ⟨fun _ => p200 l6 s0 u len Fr.rf hlu hb, fun _ => ⟨fun c0 => ?_, fun _ => p200 l6 s0 u len Fr.rf hlu hb⟩⟩
      have hb0 := hb.2 c0
      exact r_puts170 (PuP st0) (x9_puts_80 z) r m l3 x4 l5 x en s0 u fl len hfl u56 (by omega) (fun t ht => p200 1 s0 t (len + fl) ht.1 ht.2.1 ⟨by omega, fun h => absurd h (by decide)⟩) fuel 0 0 u rfl (by omega) (by unfold fuel; omega) (LaP.rf hlu)
    have p151 : Ok (x9_puts_151 (x9_puts_80 z) r m l3 x4 l5 l6 x en u) (PuP st0) := p152 0
    have e31 := i31 (n := gI u 33) hm1 hm2 u33.1 u33.2
    refine Ok.bp (r_has hm1 hm2) (fun _ => ?_) (fun _ => ?_)
    · simp only [Ok_pif, Ok_gd, t_in, e31]
      exact ⟨fun h => absurd h (by decide), fun _ => ⟨fun _ => p151, fun _ => ⟨by omega, fun _ => ⟨fun _ => p151, fun _ => p152 1⟩, fun _ => p151⟩⟩⟩
    · simp only [Ok_pif]
      exact ⟨fun _ => p151, fun h => absurd trivial h⟩
theorem r_puts27 (st0 : RS) (r m x3 x4 : Int32) (fl len : Nat) (h1 : 0 ≤ r.toInt) (h2 : r.toInt < 4) (hm1 : 0 ≤ m.toInt) (hm2 : m.toInt < 8) (h3 : 0 ≤ x3.toInt) (h3' : x3.toInt ≤ 30) (hfl : fl ≤ 200) (h4 : x4.toInt = len) (hlen : len ≤ 120) : ∀ (z i : Nat) (x : Int32) (st : RS), x.toInt = i → i ≤ len → len - i < z → (gI st 56).toInt = fl → Pcs (gF st 52) 0 len → (∀ j, j < i → gF st 30 j = gF st 52 j) → Fr puI puF st0 st → RcI st → Ok (x9_puts_27 z r m x3 x4 x st) (PuP st0) := by
  intro z
  induction z with
  | zero => intro i x st a b c; omega
  | succ z ih =>
    intro i x st hx hi hz h56 hP hrow hF hR
    have e : (x + 1).toInt = x.toInt + 1 := by rw [t_add (by show -2147483648 ≤ x.toInt + 1; omega) (by show x.toInt + 1 < 2147483648; omega)]; rfl
    have e31 := i31 hm1 hm2 h3 h3'
    have xn : x.toNatClampNeg = i := by rw [t_nat]; omega
    rw [x9_puts_27_s]
    generalize x + 1 = x' at e ⊢
    simp only [Ok_pif, Ok_gd, Ok_nam, t_in, t_le, h4, hx, e31, xn]
    refine ⟨fun c => ⟨by decide, by omega, ?_⟩, fun c => ⟨by omega, by omega, ?_⟩⟩
    · have hil : i = len := by omega
      obtain ⟨N, cf, hc0, hcN, hc⟩ := hP.same (g := gF st 30) (fun j _ hj => hrow j (by omega))
      refine r_puts80 st0 r m x4 fl N cf (gF st 30) h1 h2 hm1 hm2 hfl (by omega) (by omega) hc0 hc x3 _ fuel 0 0 0 _ 0 (by omega) ?_ (by rw [hc0]; rfl) h56 rfl (hF.sF (by decide)) (hR.fr rfl) rfl ⟨by omega, fun _ => by omega⟩
      have hg : ∀ j, j ≤ N → 2 * j ≤ cf j := by
        intro j
        induction j with
        | zero => intro _; omega
        | succ j ihj =>
          intro hj
          have := ihj (by omega)
          have := (hc j (by omega)).lt
          omega
      have := hg N (Nat.le_refl _)
      unfold fuel
      omega
    · refine ih (i + 1) x' _ (by omega) (by omega) (by omega) h56 hP (fun j hj => ?_) (hF.sF (by decide)) (hR.fr rfl)
      show upd (gF st 30) i (gF st 52 i) j = gF st 52 j
      by_cases q : j = i
      · rw [upd_eq q, q]
      · rw [upd_ne q]
        exact hrow j (by omega)
/-- a record is sound by a make -/
def SdR (st : RS) (r m : Nat) : Prop := Snd st (fun k => gF st 28 (120 * r + k)) m 0 (gF st 29 r).toNatClampNeg
theorem IrP.sd {st : RS} {r m : Nat} {q : Int32 × RS} (h : IrP st r m q) (h0 : 0 ≤ (gF st 29 r).toInt) (hq : q.1 ≠ 0) : SdR st r m := by
  rcases h.2.2 with h1 | ⟨h1, h2, -⟩
  · exact absurd h1 hq
  · exact h2.same (fun i _ hi => (h.2.1 i (by rw [t_nat] at hi; omega)).symm)
theorem SdR.fr {st t : RS} {r m : Nat} (h : SdR st r m) (h1 : gF t 1 = gF st 1) (h3 : gF t 3 = gF st 3) (h8 : gF t 8 = gF st 8) (h28 : gF t 28 = gF st 28) (h29 : gF t 29 = gF st 29) : SdR t r m := by
  unfold SdR at *
  rw [h28, h29]
  exact h.fr h1 h3 h8
theorem r_puts {r m n : Int32} {st : RS} {fl : Nat} (hM : MkI st) (hR : RcI st) (h1 : 0 ≤ r.toInt) (h2 : r.toInt < 4) (hm : mkN st m) (h3 : 0 ≤ n.toInt) (h3' : n.toInt ≤ 30) (hfl : fl ≤ 200) (h56 : (gI st 56).toInt = fl) (hS : SdR st r.toNatClampNeg m.toNatClampNeg) : Ok (x9_puts r m n st) (PuP st) := by
  obtain ⟨l1, l2⟩ := hR r.toNatClampNeg (by rw [t_nat]; omega)
  unfold x9_puts
  refine Ok.callv (r_loads h1 h2 l2) (fun t ht => ?_)
  obtain ⟨hF, hb⟩ := ht
  have e0 : gF t 0 = gF st 0 := (hF.2 0 (by decide)).1
  have e1 : gF t 1 = gF st 1 := (hF.2 1 (by decide)).1
  have e3 : gF t 3 = gF st 3 := (hF.2 3 (by decide)).1
  have e8 : gF t 8 = gF st 8 := (hF.2 8 (by decide)).1
  have e29 : gF t 29 = gF st 29 := (hF.2 29 (by decide)).1
  have hSt : Snd t (gF t 30) m.toNatClampNeg 0 (gF st 29 r.toNatClampNeg).toNatClampNeg := by
    refine Snd.fr (st := st) (Snd.same hS (fun i _ hi => hb i ?_)) e1 e3 e8
    rw [t_nat (gF st 29 r.toNatClampNeg)] at hi
    omega
  simp only [Ok_gd, t_in, e29]
  refine ⟨by omega, Ok.callv (r_writes l1 l2 ⟨hm.1, hm.2.1, by rw [e0]; exact hm.2.2⟩ (hM.fr e0 e1 e3 e8 (hF.2 6 (by decide)).2) hSt) (fun u hu => ?_)⟩
  obtain ⟨hFu, len, hl, hle, hP⟩ := hu
  have hl' := hl.i (by rw [t_nat (gF st 29 r.toNatClampNeg)] at hle; omega)
  simp only [Ok_gd, Ok_nam, t_in]
  have hF2 : Fr puI puF st u := (hF.d (by decide) (by decide)).tr (hFu.d (by decide) (by decide))
  refine ⟨by decide, r_puts27 st r m n _ fl len h1 h2 hm.1 hm.2.1 h3 h3' hfl (by rw [show (0 : Int32).toNatClampNeg = 0 from rfl]; exact hl') (by rw [t_nat (gF st 29 r.toNatClampNeg)] at hle; omega) fuel 0 0 u rfl (by omega) (by rw [t_nat (gF st 29 r.toNatClampNeg)] at hle; unfold fuel; omega) ?_ hP (fun j hj => absurd hj (by omega)) hF2 (hR.fr ?_)⟩
  · rw [(hF2.1 56 (by decide)).1]; exact h56
  · rw [(hFu.2 29 (by decide)).1]; exact e29
