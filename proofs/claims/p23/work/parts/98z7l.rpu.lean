/-! the reference's puts(), exactly -/
/-- a record of the reference -/
def RcL (st : RS) (r : Nat) (l : List Int32) : Prop := (gF st 29 r).toInt = l.length ∧ Hs (gF st 28) (120 * r) l
/-- the other records -/
def RcO (st t : RS) (r : Nat) : Prop := ∀ d, d < 4 → d ≠ r → gF t 29 d = gF st 29 d ∧ ∀ k, k < 120 → gF t 28 (120 * d + k) = gF st 28 (120 * d + k)
theorem RcO.of {st st' t : RS} {r : Nat} (h : RcO st t r) (e28 : gF st 28 = gF st' 28) (e29 : gF st 29 = gF st' 29) : RcO st' t r := by
  unfold RcO at *
  rw [← e28, ← e29]
  exact h
theorem MkS.wl {st t : RS} (h : MkS st t) {f : Nat → Int32} : ∀ z, wrL t f z = wrL st f z := by
  obtain ⟨eh, ek, eg, ei⟩ := h.all
  have ep : pcB t f = pcB st f := by
    funext m a b inner
    unfold pcB
    rw [eh, ek]
  intro z
  induction z with
  | zero => rfl
  | succ z ih =>
    funext m a b
    show pif (a < b) (pcB t f m a b (wrL t f z (inM t m (pNu f a)) (pFr f a) (pTo f a b)) ++ wrL t f z m (pTo f a b) b) [] = _
    rw [ep, ei, ih]
    rfl
theorem MkS.wr {st t : RS} (h : MkS st t) {f : Nat → Int32} : wrR t f = wrR st f := by
  funext m a b
  unfold wrR
  rw [h.wl]
theorem pcB_eq {st : RS} {f g : Nat → Int32} {m a b : Nat} {inner : List Int32} (hP : PcA f a b) (he : ∀ i, a ≤ i → i < b → g i = f i) : pcB st g m a b inner = pcB st f m a b inner := by
  obtain ⟨-, v1, v2, fr, to, nu⟩ := hP.eq he
  have hlt := hP.lt
  unfold pcB
  rw [v2, fr, to, nu, seg_eq (f := f) (g := g) (a := pFr f a) (b := pTo f a b) (fun i i1 i2 => he i (by omega) (by omega)), seg_eq (f := f) (g := g) (a := a) (b := pTo f a b) (fun i i1 i2 => he i (by omega) (by omega))]
theorem wrL_eq {st : RS} {f g : Nat → Int32} : ∀ (w z m a b last : Nat) (gs : Int32), SdX st f w m a b last gs → a ≤ b → (∀ i, a ≤ i → i < b → g i = f i) → wrL st g z m a b = wrL st f z m a b := by
  intro w
  induction w with
  | zero => intro z m a b last gs h; exact h.elim
  | succ w ih =>
    intro z m a b last gs h hab he
    cases z with
    | zero => rfl
    | succ z =>
      rcases h with h | ⟨h1, h2, h3, h4⟩
      · rw [wrL_n (by omega), wrL_n (by omega)]
      · have hlt := h1.lt
        obtain ⟨-, v1, v2, fr, to, nu⟩ := h1.eq he
        rw [wrL_s (by omega), wrL_s (by omega), to, fr, nu, pcB_eq h1 he, ih z m _ b _ _ h3 (by omega) (fun i i1 i2 => he i (by omega) i2)]
        congr 1
        exact pcB_c (fun q1 q2 => ih z _ _ _ _ _ (h4 q1 q2) (by omega) (fun i i1 i2 => he i (by omega) (by omega)))
theorem wrR_eq {st : RS} {f g : Nat → Int32} {m a b last : Nat} {gs : Int32} (h : Sd st f m a b last gs) (hab : a ≤ b) (he : ∀ i, a ≤ i → i < b → g i = f i) : wrR st g m a b = wrR st f m a b := by
  obtain ⟨w, h⟩ := h
  exact wrL_eq w _ m a b _ _ h hab he
theorem r_comesL2 (r : Int32) (st : RS) (W : List Int32) (h1 : 0 ≤ r.toInt) (h2 : r.toInt < 4) (hl : LyL st 0 W) (h3 : W.length ≤ 120) : ∀ (z i : Nat) (x : Int32) (t : RS), x.toInt = i → i ≤ W.length → W.length - i < z → Fr [] [28] st t → (∀ j, j < i → gF t 28 (120 * r.toNatClampNeg + j) = ix W j) → (∀ d, d < 4 → d ≠ r.toNatClampNeg → ∀ k, k < 120 → gF t 28 (120 * d + k) = gF st 28 (120 * d + k)) → Ok (x9_comes_2 z r x t) (fun t => Fr [] [28, 29] st t ∧ RcL t r.toNatClampNeg W ∧ RcO st t r.toNatClampNeg) := by
  intro z
  induction z with
  | zero => intro i x t a b c; omega
  | succ z ih =>
    intro i x t hx hi hz hF hB hO
    have e53 : gF t 53 = gF st 53 := (hF.2 53 (by decide)).1
    have e52 : gF t 52 = gF st 52 := (hF.2 52 (by decide)).1
    have e29 : gF t 29 = gF st 29 := (hF.2 29 (by decide)).1
    have l53 := hl.1.i (by omega)
    have z0 : (0 : Int32).toInt = 0 := rfl
    have zn : (0 : Int32).toNatClampNeg = 0 := rfl
    have xn : x.toNatClampNeg = i := by rw [t_nat]; omega
    have rn : (r.toNatClampNeg : Int) = r.toInt := by rw [t_nat]; omega
    have em : (120 * r).toInt = 120 * r.toInt := by
      rw [t_mul (by show -2147483648 ≤ 120 * r.toInt; omega) (by show 120 * r.toInt < 2147483648; omega)]
      rfl
    have ea : (120 * r + x).toInt = 120 * r.toInt + i := by rw [t_add (by omega) (by omega), em, hx]
    have en : (120 * r + x).toNatClampNeg = 120 * r.toNatClampNeg + i := by rw [t_nat (120 * r + x), ea]; omega
    have e := inc (x := x) (by omega) (by omega)
    rw [x9_comes_2_s]
    generalize x + 1 = x' at e ⊢
    simp only [Ok_pif, Ok_gd, Ok_nam, Ok_some, t_in, t_le, z0, zn, e53, l53, ea, en, xn, e52]
    refine ⟨by omega, fun c => ⟨by omega, by omega, ⟨(hF.d rfl rfl).sF (by decide), ⟨?_, fun j hj => ?_⟩, fun d hd hdr => ⟨?_, fun k hk => ?_⟩⟩⟩, fun c => ⟨by omega, by omega, ih (i + 1) x' _ (by omega) (by omega) (by omega) (hF.sF (by decide)) (fun j hj => ?_) (fun d hd hdr k hk => ?_)⟩⟩
    · show (upd (gF t 29) r.toNatClampNeg (gF st 53 0) r.toNatClampNeg).toInt = _
      rw [upd_eq rfl, l53]
    · exact hB j (by omega)
    · show upd (gF t 29) r.toNatClampNeg (gF st 53 0) d = _
      rw [upd_ne hdr, e29]
    · exact hO d hd hdr k hk
    · show upd (gF t 28) (120 * r.toNatClampNeg + i) (gF st 52 i) (120 * r.toNatClampNeg + j) = _
      by_cases q : j = i
      · rw [upd_eq (by omega), q]
        have := hl.2 i (by omega)
        rw [show 160 * 0 + i = i by omega] at this
        exact this
      · rw [upd_ne (by omega)]
        exact hB j (by omega)
    · show upd (gF t 28) (120 * r.toNatClampNeg + i) (gF st 52 i) (120 * d + k) = _
      rw [upd_ne (by omega)]
      exact hO d hd hdr k hk
theorem r_comesL {r : Int32} {st : RS} {W : List Int32} (h1 : 0 ≤ r.toInt) (h2 : r.toInt < 4) (hl : LyL st 0 W) (h3 : W.length ≤ 120) : Ok (x9_comes r st) (fun t => Fr [] [28, 29] st t ∧ RcL t r.toNatClampNeg W ∧ RcO st t r.toNatClampNeg) := r_comesL2 r st W h1 h2 hl h3 fuel 0 0 st rfl (by omega) (by unfold fuel; omega) Fr.rf (fun j hj => absurd hj (by omega)) (fun _ _ _ _ _ => rfl)
/-- what puts() answers -/
def PuQ (st0 : RS) (r : Nat) (W : List Int32) (q : Int32 × RS) : Prop := Fr puI puF st0 q.2 ∧ ((W.length ≤ 120 ∧ q.1.toInt = W.length ∧ RcL q.2 r W ∧ RcO st0 q.2 r) ∨ (¬ W.length ≤ 120 ∧ q.1 = -4 ∧ gF q.2 28 = gF st0 28 ∧ gF q.2 29 = gF st0 29))
theorem r_pu284 {st0 st : RS} {r : Int32} {W : List Int32} (h1 : 0 ≤ r.toInt) (h2 : r.toInt < 4) (hF : Fr puI puF st0 st) (e28 : gF st 28 = gF st0 28) (e29 : gF st 29 = gF st0 29) (hl : LyL st 0 W) (hl2 : W.length ≤ 1000) : Ok (x9_puts_284 r st) (PuQ st0 r.toNatClampNeg W) := by
  have l53 := hl.1.i (by omega)
  unfold x9_puts_284
  simp only [Ok_gd, Ok_pif, Ok_some, t_in]
  rw [t_le, show (0 : Int32).toNatClampNeg = 0 from rfl, l53, show (120 : Int32).toInt = 120 from rfl]
  refine ⟨by decide, fun c => ?_, fun c => ⟨hF, Or.inr ⟨by omega, rfl, e28, e29⟩⟩⟩
  refine Ok.callv (r_comesL h1 h2 hl (by omega)) (fun t ht => ?_)
  simp only [Ok_gd, Ok_some, t_in]
  exact ⟨by omega, hF.tr (ht.1.d (by decide) (by decide)), Or.inl ⟨by omega, ht.2.1.1, ht.2.1, ht.2.2.of e28 e29⟩⟩
theorem Hs.g {f : Nat → Int32} {l : List Int32} {i : Nat} (h : Hs f 0 l) (hi : i < l.length) : f i = ix l i := by
  have := h i hi
  rw [Nat.zero_add] at this
  exact this
theorem r_pu257 (st0 : RS) (r : Int32) (fresh W l0 : List Int32) (h1 : 0 ≤ r.toInt) (h2 : r.toInt < 4) (hfl : fresh.length ≤ 200) (hW : l0 ++ fresh = W) (hWl : W.length ≤ 1000) : ∀ (z i : Nat) (x : Int32) (st : RS), x.toInt = i → i ≤ fresh.length → fresh.length - i < z → (gI st 56).toInt = fresh.length → Hs (gF st 55) 0 fresh → Fr puI puF st0 st → gF st 28 = gF st0 28 → gF st 29 = gF st0 29 → LyL st 0 (l0 ++ seg (ix fresh) 0 i) → Ok (x9_puts_257 z r x st) (PuQ st0 r.toNatClampNeg W) := by
  intro z
  induction z with
  | zero => intro i x st a b c; omega
  | succ z ih =>
    intro i x st hx hi hz h56 h55 hF e28 e29 hl
    have e := inc (x := x) (by omega) (by omega)
    have xn : x.toNatClampNeg = i := by rw [t_nat]; omega
    have hlen : W.length = l0.length + fresh.length := by rw [← hW, List.length_append]
    rw [x9_puts_257_s]
    generalize x + 1 = x' at e ⊢
    simp only [Ok_pif, Ok_gd, t_in, t_le, h56, hx, xn]
    refine ⟨fun c => ?_, fun c => ⟨by omega, ?_⟩⟩
    · have : i = fresh.length := by omega
      rw [this, seg_ix, hW] at hl
      exact r_pu284 h1 h2 hF e28 e29 hl hWl
    · refine Ok.callv (r_laysL (l := 0) (by decide) (by decide) hl (by show 160 * 0 + (l0 ++ seg (ix fresh) 0 i).length < 1440; rw [List.length_append, seg_len]; omega)) (fun u hu => ?_)
      rw [Ok_nam]
      have hu : LlP st 0 (l0 ++ seg (ix fresh) 0 i) [gF st 55 i] u := hu
      have h3 := hu.ly hl
      rw [h55.g (by omega), List.append_assoc, ← seg_snoc (Nat.zero_le _)] at h3
      have hFu := hu.1.1
      exact ih (i + 1) x' u (by omega) (by omega) (by omega) (by rw [(hFu.1 56 (by decide)).1]; exact h56) (by rw [(hFu.2 55 (by decide)).1]; exact h55) (hF.tr (hFu.d (by decide) (by decide))) (by rw [(hFu.2 28 (by decide)).1]; exact e28) (by rw [(hFu.2 29 (by decide)).1]; exact e29) h3
theorem r_pu170 (P : Int32 × RS → Prop) (k : Int32 → Int32 → Int32 → Int32 → Int32 → Int32 → Int32 → RS → Option (Int32 × RS)) (l1 l2 l3 l4 l5 l7 l8 l9 : Int32) (st : RS) (fresh l0 : List Int32) (hfl : fresh.length ≤ 200) (h56 : (gI st 56).toInt = fresh.length) (h55 : Hs (gF st 55) 0 fresh) (hl0 : LyL st 0 l0) (hn : l0.length + fresh.length ≤ 1000)
    (hk : ∀ t, LlP st 0 l0 fresh t → Ok (x9_puts_200 k l1 l2 l3 l4 l5 1 l7 l8 l9 t) P) : ∀ (z i : Nat) (x : Int32) (t : RS), x.toInt = i → i ≤ fresh.length → fresh.length - i < z → LlP st 0 l0 (seg (ix fresh) 0 i) t → Ok (x9_puts_170 k z l1 l2 l3 l4 l5 l7 l8 l9 x t) P := by
  intro z
  induction z with
  | zero => intro i x t a b c; omega
  | succ z ih =>
    intro i x t hx hi hz hP
    have e := inc (x := x) (by omega) (by omega)
    have xn : x.toNatClampNeg = i := by rw [t_nat]; omega
    have e56 : (gI t 56).toInt = fresh.length := by rw [(hP.1.1.1 56 (by decide)).1]; exact h56
    have e55 : gF t 55 = gF st 55 := (hP.1.1.2 55 (by decide)).1
    rw [x9_puts_170_s]
    generalize x + 1 = x' at e ⊢
    simp only [Ok_pif, Ok_gd, t_in, t_le, e56, hx, xn, e55]
    refine ⟨fun c => ?_, fun c => ⟨by omega, ?_⟩⟩
    · have : i = fresh.length := by omega
      rw [this, seg_ix] at hP
      exact hk t hP
    · refine Ok.callv (r_laysL (l := 0) (by decide) (by decide) (hP.ly hl0) (by show 160 * 0 + (l0 ++ seg (ix fresh) 0 i).length < 1440; rw [List.length_append, seg_len]; omega)) (fun u hu => ?_)
      rw [Ok_nam]
      have hu : LlP t 0 (l0 ++ seg (ix fresh) 0 i) [gF st 55 i] u := hu
      have h3 := hP.tr hu
      rw [h55.g (by omega), ← seg_snoc (Nat.zero_le _)] at h3
      exact ih (i + 1) x' u (by omega) (by omega) (by omega) h3
theorem r_pu217 (P : Int32 × RS → Prop) (k : Int32 → Int32 → Int32 → Int32 → Int32 → Int32 → Int32 → RS → Option (Int32 × RS)) (l1 l2 l3 l4 l5 l6 l8 : Int32) (st : RS) (p q : Nat) (l0 : List Int32) (h8 : l8.toInt = q) (hpq : p ≤ q) (hq : q ≤ 160) (hl0 : LyL st 0 l0) (hn : l0.length + (q - p) ≤ 1000)
    (hk : ∀ t, LlP st 0 l0 (seg (gF st 30) p q) t → Ok (k l1 l2 l3 l4 l5 l6 l8 t) P) : ∀ (z i : Nat) (x : Int32) (t : RS), x.toInt = i → p ≤ i → i ≤ q → q - i < z → LlP st 0 l0 (seg (gF st 30) p i) t → Ok (x9_puts_217 k z l1 l2 l3 l4 l5 l6 l8 x t) P := by
  intro z
  induction z with
  | zero => intro i x t a b c d; omega
  | succ z ih =>
    intro i x t hx hpi hi hz hP
    have e := inc (x := x) (by omega) (by omega)
    have xn : x.toNatClampNeg = i := by rw [t_nat]; omega
    have e30 : gF t 30 = gF st 30 := (hP.1.1.2 30 (by decide)).1
    rw [x9_puts_217_s]
    generalize x + 1 = x' at e ⊢
    simp only [Ok_pif, Ok_gd, t_in, t_le, h8, hx, xn, e30]
    refine ⟨fun c => ?_, fun c => ⟨by omega, ?_⟩⟩
    · have : i = q := by omega
      rw [this] at hP
      unfold x9_puts_242
      exact hk t hP
    · refine Ok.callv (r_laysL (l := 0) (by decide) (by decide) (hP.ly hl0) (by show 160 * 0 + (l0 ++ seg (gF st 30) p i).length < 1440; rw [List.length_append, seg_len]; omega)) (fun u hu => ?_)
      rw [Ok_nam]
      have hu : LlP t 0 (l0 ++ seg (gF st 30) p i) [gF st 30 i] u := hu
      have h3 := hP.tr hu
      rw [← seg_snoc hpi] at h3
      exact ih (i + 1) x' u (by omega) (by omega) (by omega) (by omega) h3
/-- what is still to come: the fresh piece may be due -/
noncomputable def resL (st : RS) (f : Nat → Int32) (m n0 : Nat) (g4 : Int32) (fresh : List Int32) (b y q last a : Nat) : List Int32 := pif (q = 0 ∧ n0 ≤ last) (fresh ++ putL st f m n0 g4 fresh b y 1 a) (putL st f m n0 g4 fresh b y q a)
theorem seg_hs {g : Nat → Int32} {p : Nat} {l : List Int32} (h : Hs g p l) : seg g p (p + l.length) = l := by
  have e := seg_ix (l := l)
  unfold seg at *
  rw [show p + l.length - p = l.length by omega]
  rw [Nat.sub_zero] at e
  rw [← e]
  rw [List.length_map, List.length_range]
  refine List.map_congr_left (fun i hi => ?_)
  rw [List.mem_range] at hi
  rw [h i hi, Nat.zero_add]
theorem pcB_pos {st : RS} {f : Nat → Int32} {m a b : Nat} {inner : List Int32} (hP : PcA f a b) : 1 ≤ (pcB st f m a b inner).length := by
  have hlt := hP.lt
  unfold pcB
  by_cases c : hasN st m (pNu f a)
  · rw [pif_pos c]
    by_cases d6 : kdN st m (pNu f a) = 6
    · rw [pif_pos d6, List.length_append]
      have := (viL_pos (v := iV (2 * pNu f a + 1))).1
      omega
    · rw [pif_neg d6]
      by_cases d5 : kdN st m (pNu f a) = 5
      · rw [pif_pos d5, List.length_append]
        have := (viL_pos (v := iV (2 * pNu f a + 1))).1
        omega
      · rw [pif_neg d5, List.length_append]
        have := (viL_pos (v := iV (2 * pNu f a))).1
        omega
  · rw [pif_neg c, seg_len]
    omega
theorem resL_le {st : RS} {f : Nat → Int32} {m n0 b y q last a : Nat} {g4 : Int32} {fresh : List Int32} (hab : a < b) (hq : q ≤ 1) (h1 : last < pNu f a) (h2 : pNu f a ≤ n0) (hn0 : hasN st m n0) : resL st f m n0 g4 fresh b (y + 1) q last a = midL st f m n0 g4 b a ++ resL st f m n0 g4 fresh b y q (pNu f a) (pTo f a b) := by
  unfold resL
  rw [pif_neg (fun w => by omega)]
  by_cases c : q = 0
  · by_cases e : pNu f a = n0
    · have em : midL st f m n0 g4 b a = [] := by
        unfold midL
        rw [pif_pos ⟨by rw [e]; exact hn0, Or.inl e⟩]
      rw [putL_y hab ⟨c, by omega⟩, pif_pos ⟨c, by omega⟩, em, List.nil_append, List.nil_append]
    · rw [putL_x hab (fun w => by omega), pif_neg (fun w => by omega)]
  · rw [putL_x hab (fun w => c w.1), pif_neg (fun w => c w.1)]
theorem resL_gt0 {st : RS} {f : Nat → Int32} {m n0 b y last a : Nat} {g4 : Int32} {fresh : List Int32} (hab : a < b) (h2 : n0 < pNu f a) : resL st f m n0 g4 fresh b (y + 1) 0 last a = fresh ++ (midL st f m n0 g4 b a ++ resL st f m n0 g4 fresh b y 1 (pNu f a) (pTo f a b)) := by
  unfold resL
  rw [pif_neg (P := (1 = 0 ∧ n0 ≤ pNu f a)) (fun w => by omega)]
  by_cases c : 0 = 0 ∧ n0 ≤ last
  · rw [pif_pos c, putL_x hab (fun w => by omega)]
  · rw [pif_neg c, putL_y hab ⟨rfl, by omega⟩]
theorem resL_gt1 {st : RS} {f : Nat → Int32} {m n0 b y last a : Nat} {g4 : Int32} {fresh : List Int32} (hab : a < b) : resL st f m n0 g4 fresh b (y + 1) 1 last a = midL st f m n0 g4 b a ++ resL st f m n0 g4 fresh b y 1 (pNu f a) (pTo f a b) := by
  unfold resL
  rw [pif_neg (P := (1 = 0 ∧ n0 ≤ pNu f a)) (fun w => by omega), pif_neg (fun w => by omega), putL_x hab (fun w => by omega)]
set_option maxHeartbeats 4000000 in
theorem r_pu80 (st0 : RS) (r m x4 l3 l5 g4 : Int32) (f R : Nat → Int32) (n n0 : Nat) (fresh W W0 : List Int32) (h1 : 0 ≤ r.toInt) (h2 : r.toInt < 4) (hm : mkN st0 m) (hM : MkI st0) (hn : n ≤ 120) (h4 : x4.toInt = W0.length) (hW0 : W0.length ≤ 120) (hR : Hs R 0 W0) (h3 : l3.toInt = n0) (hn0 : hasN st0 m.toNatClampNeg n0) (h5 : l5 = grN st0 m.toNatClampNeg n0) (hl5 : 0 ≤ l5.toInt) (hg4 : g4 = pif (fresh.length = 0) 0 l5) (hfl : fresh.length ≤ 200) (hWl : W.length ≤ 400) : ∀ (z a p q last y : Nat) (gs l6 x : Int32) (st : RS) (l pre : List Int32), n - a < z → n - a < y → x.toInt = p → pre.length = p → W0 = pre ++ wrR st0 f m.toNatClampNeg a n → a ≤ n → Sd st0 f m.toNatClampNeg a n last gs → l6.toInt = q → q ≤ 1 → (gI st 56).toInt = fresh.length → Hs (gF st 55) 0 fresh → gF st 30 = R → Fr puI puF st0 st → gF st 28 = gF st0 28 → gF st 29 = gF st0 29 → LyL st 0 l → l ++ resL st0 f m.toNatClampNeg n0 g4 fresh n y q last a = W → Ok (x9_puts_80 z r m l3 x4 l5 l6 x st) (PuQ st0 r.toNatClampNeg W) := by
  intro z
  induction z with
  | zero => intro a p q last y gs l6 x st l pre h; omega
  | succ z ih =>
    intro a p q last y gs l6 x st l pre hz hy hx hpre hWW han hSd h6 hq1 h56 h55 h30 hF e28 e29 hl hres
    obtain ⟨hm1, hm2, hm3⟩ := id hm
    have htm : tld st0 m.toNatClampNeg := ⟨by rw [t_nat]; omega, hm3⟩
    generalize em : m.toNatClampNeg = mm at *
    have q0 : l6 = 0 ↔ q = 0 := by rw [t_eq, h6, show (0 : Int32).toInt = 0 from rfl]; omega
    have hWp : W0.length = p + (wrR st0 f mm a n).length := by rw [hWW, List.length_append, hpre]
    have hll : l.length ≤ W.length := by rw [← hres, List.length_append]; omega
    obtain ⟨y, rfl⟩ : ∃ k, y = k + 1 := ⟨y - 1, by omega⟩
    rw [x9_puts_80_s]
    rw [Ok_pif, t_le, h4, hx]
    refine ⟨fun c => ?_, fun c => ?_⟩
    · -- the end
      have hae : a = n := by
        rcases Nat.lt_or_ge a n with w | w
        · exfalso
          rw [wrR_s hSd w, List.length_append] at hWp
          obtain ⟨hP, hok, hrest, hin⟩ := (Sd.iff (by omega)).mp hSd
          have hne := pcB_pos (st := st0) (m := mm) (inner := wrR st0 f (inM st0 mm (pNu f a)) (pFr f a) (pTo f a n)) hP
          omega
        · omega
      have hrn : resL st0 f mm n0 g4 fresh n (y + 1) q last a = pif (q = 0) fresh [] := by
        unfold resL
        by_cases w : q = 0 ∧ n0 ≤ last
        · rw [pif_pos w, putL_n (by omega), pif_neg (by decide), List.append_nil, pif_pos w.1]
        · rw [pif_neg w, putL_n (by omega)]
      rw [hrn] at hres
      by_cases cq : q = 0
      · rw [pif_pos cq] at hres
        rw [pif_pos (q0.mpr cq)]
        exact r_pu257 st0 r fresh W l h1 h2 hfl hres (by omega) fuel 0 0 st rfl (by omega) (by unfold fuel; omega) h56 h55 hF e28 e29 (by rw [seg_nil (Nat.le_refl _), List.append_nil]; exact hl)
      · rw [pif_neg cq, List.append_nil] at hres
        rw [pif_neg (fun w => cq (q0.mp w))]
        rw [← hres]
        exact r_pu284 h1 h2 hF e28 e29 hl (by omega)
    · have hlt : a < n := by
        rcases Nat.lt_or_ge a n with w | w
        · exact w
        · rw [wrR_n w] at hWp
          have hWp : W0.length = p + 0 := hWp
          omega
      obtain ⟨hP, hok, hrest, hin⟩ := (Sd.iff (by omega)).mp hSd
      have hplt := hP.lt
      have hws := wrR_s hSd hlt
      have hpl := pcB_len2 hM htm hP hok hin (by omega)
      obtain ⟨B, eB⟩ : ∃ B, B = pcB st0 f mm a n (wrR st0 f (inM st0 mm (pNu f a)) (pFr f a) (pTo f a n)) := ⟨_, rfl⟩
      rw [← eB] at hws hpl
      have hWB : W0 = (pre ++ B) ++ wrR st0 f mm (pTo f a n) n := by rw [List.append_assoc, ← hws]; exact hWW
      have hWBl : W0.length = p + B.length + (wrR st0 f mm (pTo f a n) n).length := by rw [hWB, List.length_append, List.length_append, hpre]
      have hRB : Hs R p B := by
        have := hR
        rw [hWB] at this
        have h7 := (Hs.app.mp (Hs.app.mp this).1).2
        rw [Nat.zero_add, hpre] at h7
        exact h7
      have hrd := pcB_rd (g := R) (q := p) (e := W0.length) (inner := wrR st0 f (inM st0 mm (pNu f a)) (pFr f a) (pTo f a n)) hP hok (fun c1 c6 => wrR_len hM (hin c1 c6) ((hM.hk mm _ htm c1).2 c6) hplt.2.1 (by omega)) (by omega) (fun cN => (hM.hk mm _ htm cN).1) (by rw [← eB]; exact hRB) (by rw [← eB]; omega)
      rw [← eB] at hrd
      obtain ⟨rA, rN, rT⟩ := hrd
      have hrl := rA.lt
      have hlast := hok.2.2.2.2.1
      refine Ok.callv (r_piece (by omega) (by omega) (by omega) hm1 hm2) (fun u hu => ?_)
      obtain ⟨hFu, hu⟩ := hu
      have xn : x.toNatClampNeg = p := by rw [t_nat]; omega
      have x4n : x4.toNatClampNeg = W0.length := by rw [t_nat]; omega
      rw [h30, xn, x4n] at hu
      rcases hu with ⟨j1, j2, hK', hV, -⟩ | ⟨-, hu⟩
      case inr => exact absurd rA (hu _ _)
      obtain ⟨w1, w2, -⟩ := hK'.a
      obtain ⟨v33, v34, v35, v37, v36⟩ := hV
      have eV1 : vacc R p j1 = pV1 R p := by unfold pV1; rw [w1]
      have eV2 : vacc R (p + j1) j2 = pV2 R p := by unfold pV2; rw [w1, w2]
      have eFr : p + j1 + j2 = pFr R p := by unfold pFr; rw [w1, w2]
      rw [eV1] at v33
      rw [eV1, eV2, eFr] at v36
      have i33 : (gI u 33).toInt = pNu f a := by rw [v33, pNu_i, rN]
      have n33 : (gI u 33).toNatClampNeg = pNu f a := by rw [t_nat, i33]; omega
      have i36 : (gI u 36).toInt = (p + B.length : Nat) := by
        have h7 := pto_r (pV1 R p) (pV2 R p) (pFr R p) W0.length (by omega)
        have h8 : pTo R p W0.length = (pto (pV1 R p) (pV2 R p) (pFr R p) W0.length).toNat := rfl
        rw [v36]
        omega
      have u56 : (gI u 56).toInt = fresh.length := by rw [(hFu.1 56 (by decide)).1]; exact h56
      have u55 : Hs (gF u 55) 0 fresh := by rw [(hFu.2 55 (by decide)).1]; exact h55
      have u30 : gF u 30 = R := ((hFu.2 30 (by decide)).1).trans h30
      have hFu2 : Fr puI puF st0 u := hF.tr (hFu.d (by decide) (by decide))
      have u28 : gF u 28 = gF st0 28 := ((hFu.2 28 (by decide)).1).trans e28
      have u29 : gF u 29 = gF st0 29 := ((hFu.2 29 (by decide)).1).trans e29
      have hlu : LyL u 0 l := ⟨by unfold LyN; rw [(hFu.2 53 (by decide)).1]; exact hl.1, by rw [(hFu.2 52 (by decide)).1]; exact hl.2⟩
      have eH : hasN u mm (pNu f a) = hasN st0 mm (pNu f a) := by unfold hasN; rw [(hFu2.2 1 (by decide)).1, (hFu2.2 8 (by decide)).1]
      have e2 : gF u 2 = gF st0 2 := (hFu2.2 2 (by decide)).1
      rw [Ok_nam]
      generalize gI u 36 = en at i36 ⊢
      -- the next piece
      have next : ∀ (l6' : Int32) (q' : Nat) (t : RS) (l' : List Int32), l6'.toInt = q' → q' ≤ 1 → Fr [] [52, 53] u t → LyL t 0 l' → l' ++ resL st0 f mm n0 g4 fresh n y q' (pNu f a) (pTo f a n) = W → Ok (x9_puts_80 z r m l3 x4 l5 l6' en t) (PuQ st0 r.toNatClampNeg W) := fun l6' q' t l' h6' hq' hFt hlt' hE => ih (pTo f a n) (p + B.length) q' (pNu f a) y _ l6' en t l' (pre ++ B) (by omega) (by omega) i36 (by rw [List.length_append, hpre]) hWB hplt.2.2 hrest h6' hq' (by rw [(hFt.1 56 (by decide)).1]; exact u56) (by rw [(hFt.2 55 (by decide)).1]; exact u55) (((hFt.2 30 (by decide)).1).trans u30) (hFu2.tr (hFt.d (by decide) (by decide))) (((hFt.2 28 (by decide)).1).trans u28) (((hFt.2 29 (by decide)).1).trans u29) hlt' hE
      have p200 : ∀ (l6' s0 : Int32) (q' : Nat) (t : RS) (l' : List Int32), l6'.toInt = q' → q' ≤ 1 → Fr [] [52, 53] u t → LyL t 0 l' → (pNu f a ≠ n0 → (s0 = 0 ↔ ¬ goF st0 mm n0 g4 (pNu f a))) → l' ++ (midL st0 f mm n0 g4 n a ++ resL st0 f mm n0 g4 fresh n y q' (pNu f a) (pTo f a n)) = W → Ok (x9_puts_200 (x9_puts_80 z) r m l3 x4 l5 l6' x en s0 t) (PuQ st0 r.toNatClampNeg W) := by
        intro l6' s0 q' t l' h6' hq' hFt hlt' hs hE
        have t33 : (gI t 33).toInt = pNu f a := by rw [(hFt.1 33 (by decide)).1]; exact i33
        have t30 : gF t 30 = R := ((hFt.2 30 (by decide)).1).trans u30
        have hle : l'.length ≤ W.length := by rw [← hE, List.length_append]; omega
        have hno : goF st0 mm n0 g4 (pNu f a) → Ok (x9_puts_242 (x9_puts_80 z) r m l3 x4 l5 l6' en t) (PuQ st0 r.toNatClampNeg W) := fun hg => by
          have emid : midL st0 f mm n0 g4 n a = [] := by unfold midL; rw [pif_pos hg]
          rw [emid, List.nil_append] at hE
          unfold x9_puts_242
          exact next l6' q' t l' h6' hq' hFt hlt' hE
        unfold x9_puts_200
        rw [Ok_pif, t_eq, t33, h3]
        refine ⟨fun c1 => hno ⟨by rw [show pNu f a = n0 by omega]; exact hn0, Or.inl (by omega)⟩, fun c1 => ?_⟩
        have hs := hs (by omega)
        rw [Ok_pif, hs]
        refine ⟨fun c2 => ?_, fun c2 => hno (Classical.byContradiction c2)⟩
        have emid : midL st0 f mm n0 g4 n a = B := by unfold midL; rw [pif_neg c2, eB]
        rw [emid, ← List.append_assoc] at hE
        refine r_pu217 (PuQ st0 r.toNatClampNeg W) (x9_puts_80 z) r m l3 x4 l5 l6' en t p (p + B.length) l' i36 (by omega) (by omega) hlt' (by omega) (fun w hw => ?_) fuel p x t hx (Nat.le_refl _) (by omega) (by unfold fuel; omega) (by rw [seg_nil (Nat.le_refl _)]; exact LlP.rf hlt')
        rw [t30, seg_hs hRB] at hw
        exact next l6' q' w (l' ++ B) h6' hq' (hFt.tr hw.1.1) (hw.ly hlt') hE
      have p152 : ∀ s0 : Int32, (pNu f a ≠ n0 → (s0 = 0 ↔ ¬ goF st0 mm n0 g4 (pNu f a))) → Ok (x9_puts_152 (x9_puts_80 z) r m l3 x4 l5 l6 x en s0 u) (PuQ st0 r.toNatClampNeg W) := by
        intro s0 hs
        unfold x9_puts_152
        rw [Ok_pif, t_le, i33, h3]
        refine ⟨fun c1 => p200 l6 s0 q u l h6 hq1 Fr.rf hlu hs (by rw [← resL_le hlt hq1 hlast (by omega) hn0]; exact hres), fun c1 => ?_⟩
        by_cases cq : q = 0
        · rw [pif_pos (q0.mpr cq)]
          rw [cq, resL_gt0 hlt (by omega), ← List.append_assoc] at hres
          refine r_pu170 (PuQ st0 r.toNatClampNeg W) (x9_puts_80 z) r m l3 x4 l5 x en s0 u fresh l hfl u56 u55 hlu (by omega) (fun t ht => p200 1 s0 1 t (l ++ fresh) rfl (by omega) ht.1.1 (ht.ly hlu) hs hres) fuel 0 0 u rfl (by omega) (by unfold fuel; omega) (by rw [seg_nil (Nat.le_refl _)]; exact LlP.rf hlu)
        · rw [pif_neg (fun w => cq (q0.mp w))]
          have q1 : q = 1 := by omega
          rw [q1] at h6
          rw [q1, resL_gt1 hlt] at hres
          exact p200 l6 s0 1 u l h6 (by omega) Fr.rf hlu hs hres
      have p151 : (pNu f a ≠ n0 → ¬ goF st0 mm n0 g4 (pNu f a)) → Ok (x9_puts_151 (x9_puts_80 z) r m l3 x4 l5 l6 x en u) (PuQ st0 r.toNatClampNeg W) := fun hg => p152 0 (fun w => ⟨fun _ => hg w, fun _ => rfl⟩)
      have l50 : l5 = 0 ↔ l5.toInt = 0 := by rw [t_eq]; exact Iff.rfl
      refine Ok.bp (r_has hm1 hm2) (fun hy => ?_) (fun hy => ?_)
      · rw [em, n33, eH] at hy
        rw [pif_neg (by decide), Ok_pif, t_le, show (0 : Int32).toInt = 0 from rfl]
        refine ⟨fun c1 => p151 (fun hne hg => ?_), fun c1 => ?_⟩
        · rcases hg.2 with w | w
          · exact hne w
          · have : g4 = 0 := by
              rw [hg4]
              by_cases cf : fresh.length = 0
              · rw [pif_pos cf]
              · rw [pif_neg cf, l50]; omega
            exact w.1 this
        · have hnr := pNu_r (f := f) (a := a)
          have e31 := i31 (n := gI u 33) hm1 hm2 (by omega) (by omega)
          have e31n := i31n (n := gI u 33) hm1 hm2 (by omega) (by omega)
          rw [em, n33] at e31n
          rw [Ok_gd, t_in, e31, e31n, e2, Ok_pif]
          refine ⟨by omega, fun cg => ?_, fun cg => p151 (fun hne hg => ?_)⟩
          · have cg : grN st0 mm (pNu f a) = l5 := cg
            rw [Ok_pif, t_le, u56, show (0 : Int32).toInt = 0 from rfl]
            refine ⟨fun c0 => p151 (fun hne hg => ?_), fun c0 => p152 1 (fun hne => ⟨fun w => absurd w (by decide), fun w => absurd ?_ w⟩)⟩
            · rcases hg.2 with w | w
              · exact hne w
              · exact w.1 (by rw [hg4, pif_pos (by omega)])
            · have : g4 = l5 := by rw [hg4, pif_neg (by omega)]
              exact ⟨hy, Or.inr ⟨by rw [this]; exact fun w => by rw [l50] at w; omega, by rw [this]; exact cg⟩⟩
          · rcases hg.2 with w | w
            · exact hne w
            · have h8 := w.1
              have h9 := w.2
              rw [hg4] at h8 h9
              by_cases cf : fresh.length = 0
              · rw [pif_pos cf] at h8; exact h8 rfl
              · rw [pif_neg cf] at h9; exact cg h9
      · rw [em, n33, eH] at hy
        rw [pif_pos rfl]
        exact p151 (fun _ hg => hy hg.1)
theorem r_pu27 (st0 : RS) (r m l3 x4 g4 : Int32) (f : Nat → Int32) (n n0 : Nat) (fresh W W0 : List Int32) (h1 : 0 ≤ r.toInt) (h2 : r.toInt < 4) (hm : mkN st0 m) (hM : MkI st0) (hn : n ≤ 120) (h4 : x4.toInt = W0.length) (hW0 : W0.length ≤ 120) (hWW : W0 = wrR st0 f m.toNatClampNeg 0 n) (hSd : Sd st0 f m.toNatClampNeg 0 n 0 0) (h3 : l3.toInt = n0) (hn0 : hasN st0 m.toNatClampNeg n0) (hl5 : 0 ≤ (grN st0 m.toNatClampNeg n0).toInt) (hg4 : g4 = pif (fresh.length = 0) 0 (grN st0 m.toNatClampNeg n0)) (hfl : fresh.length ≤ 200) (hWl : W.length ≤ 400) (hW : putL st0 f m.toNatClampNeg n0 g4 fresh n (n + 1) 0 0 = W) : ∀ (z i : Nat) (x : Int32) (st : RS), x.toInt = i → i ≤ W0.length → W0.length - i < z → (gI st 56).toInt = fresh.length → Hs (gF st 55) 0 fresh → LyL st 0 W0 → (∀ j, j < i → gF st 30 j = ix W0 j) → Fr puI puF st0 st → gF st 28 = gF st0 28 → gF st 29 = gF st0 29 → Ok (x9_puts_27 z r m l3 x4 x st) (PuQ st0 r.toNatClampNeg W) := by
  intro z
  induction z with
  | zero => intro i x st a b c; omega
  | succ z ih =>
    intro i x st hx hi hz h56 h55 hl hrow hF e28 e29
    have e := inc (x := x) (by omega) (by omega)
    have h30 := hn0.2.1
    have hm1 := hm.1
    have hm2 := hm.2.1
    have l3n : l3.toNatClampNeg = n0 := by rw [t_nat]; omega
    have e31 := i31 hm.1 hm.2.1 (show 0 ≤ l3.toInt by omega) (by omega)
    have e31n := i31n hm.1 hm.2.1 (show 0 ≤ l3.toInt by omega) (by omega)
    have xn : x.toNatClampNeg = i := by rw [t_nat]; omega
    rw [x9_puts_27_s]
    generalize x + 1 = x' at e ⊢
    simp only [Ok_pif, Ok_gd, Ok_nam, t_in, t_le, h4, hx, e31, xn]
    refine ⟨fun c => ⟨by decide, by omega, ?_⟩, fun c => ⟨by omega, by omega, ?_⟩⟩
    · have hil : i = W0.length := by omega
      have hRW : Hs (gF st 30) 0 W0 := fun j hj => by rw [Nat.zero_add]; exact hrow j (by omega)
      have h29 := hm.1
      have h30 := hm.2.1
      rw [e31n, l3n]
      show Ok (x9_puts_80 fuel r m l3 x4 (gF st 2 (31 * m.toNatClampNeg + n0)) 0 0 (sF st 53 (upd (gF st 53) 0 0))) _
      rw [(hF.2 2 (by decide)).1]
      refine r_pu80 st0 r m x4 l3 (grN st0 m.toNatClampNeg n0) g4 f (gF st 30) n n0 fresh W W0 h1 h2 hm hM hn h4 hW0 hRW h3 hn0 rfl hl5 hg4 hfl hWl fuel 0 0 0 0 (n + 1) 0 0 0 _ [] [] (by unfold fuel; omega) (by omega) rfl rfl (by rw [List.nil_append]; exact hWW) (by omega) hSd rfl (by omega) h56 h55 rfl (hF.sF (by decide)) e28 e29 ⟨by unfold LyN; show upd (gF st 53) 0 0 0 = _; rw [upd_eq rfl]; rfl, Hs.nil⟩ ?_
      rw [List.nil_append]
      unfold resL
      rw [pif_neg (fun w => by have := hn0.1; omega)]
      exact hW
    · refine ih (i + 1) x' _ (by omega) (by omega) (by omega) h56 h55 hl (fun j hj => ?_) (hF.sF (by decide)) e28 e29
      show upd (gF st 30) i (gF st 52 i) j = _
      by_cases q : j = i
      · rw [upd_eq q, q]
        have := hl.2 i (by omega)
        rw [show 160 * 0 + i = i by omega] at this
        exact this
      · rw [upd_ne q]
        exact hrow j (by omega)
/-- the fresh bytes -/
def FrL (st : RS) (l : List Int32) : Prop := (gI st 56).toInt = l.length ∧ Hs (gF st 55) 0 l
theorem FrL.fr {st t : RS} {l : List Int32} (h : FrL st l) (h1 : gI t 56 = gI st 56) (h2 : gF t 55 = gF st 55) : FrL t l := by
  unfold FrL
  rw [h1, h2]
  exact h
theorem r_keepsL2 (st : RS) (l : List Int32) (h56 : (gI st 56).toInt = l.length) (hl : LyL st 0 l) (h3 : l.length ≤ 200) : ∀ (z i : Nat) (x : Int32) (t : RS), x.toInt = i → i ≤ l.length → l.length - i < z → Fr [] [55] st t → (∀ j, j < i → gF t 55 j = ix l j) → Ok (x9_keepsFresh_12 z x t) (fun t => Fr [] [55] st t ∧ FrL t l) := by
  intro z
  induction z with
  | zero => intro i x t a b c; omega
  | succ z ih =>
    intro i x t hx hi hz hF hB
    have e56 : gI t 56 = gI st 56 := (hF.1 56 (by decide)).1
    have e52 : gF t 52 = gF st 52 := (hF.2 52 (by decide)).1
    have e := inc (x := x) (by omega) (by omega)
    have xn : x.toNatClampNeg = i := by rw [t_nat]; omega
    rw [x9_keepsFresh_12_s]
    generalize x + 1 = x' at e ⊢
    simp only [Ok_pif, Ok_gd, Ok_nam, Ok_some, t_in, t_le, e56, h56, hx, xn, e52]
    refine ⟨fun c => ⟨hF, by rw [e56]; exact h56, fun j hj => by rw [Nat.zero_add]; exact hB j (by omega)⟩, fun c => ⟨by omega, by omega, ih (i + 1) x' _ (by omega) (by omega) (by omega) (hF.sF (by decide)) (fun j hj => ?_)⟩⟩
    show upd (gF t 55) i (gF st 52 i) j = _
    by_cases q : j = i
    · rw [upd_eq q, q]
      have := hl.2 i (by omega)
      rw [show 160 * 0 + i = i by omega] at this
      exact this
    · rw [upd_ne q]
      exact hB j (by omega)
theorem r_keepsL {st : RS} {l : List Int32} (hl : LyL st 0 l) (h3 : l.length ≤ 200) : Ok (x9_keepsFresh st) (fun t => Fr [56] [55] st t ∧ FrL t l) := by
  unfold x9_keepsFresh
  have l53 := hl.1.i (by omega)
  simp only [Ok_gd, Ok_nam, t_in]
  refine ⟨by decide, ?_⟩
  rw [show (0 : Int32).toNatClampNeg = 0 from rfl]
  refine (r_keepsL2 (sI st 56 (gF st 53 0)) l (by show (gF st 53 0).toInt = _; exact l53) ⟨hl.1, hl.2⟩ h3 fuel 0 0 _ rfl (by omega) (by unfold fuel; omega) Fr.rf (fun j hj => absurd hj (by omega))).mono (fun t ht => ⟨?_, ht.2⟩)
  have h1 : Fr [56] [55] st (sI st 56 (gF st 53 0)) := Fr.rf.sI (by decide)
  exact h1.tr (ht.1.d (by decide) (by decide))
/-- puts(): the record with the fresh piece -/
theorem r_pu {r m n : Int32} {st : RS} {n0 : Nat} {fresh : List Int32} {g4 : Int32} (hM : MkI st) (hR : RcI st) (h1 : 0 ≤ r.toInt) (h2 : r.toInt < 4) (hm : mkN st m) (h3 : n.toInt = n0) (hn0 : hasN st m.toNatClampNeg n0) (hl5 : 0 ≤ (grN st m.toNatClampNeg n0).toInt) (hg4 : g4 = pif (fresh.length = 0) 0 (grN st m.toNatClampNeg n0)) (hfl : fresh.length ≤ 200) (hfr : FrL st fresh) (hSd : Sd st (rbF st r.toNatClampNeg) m.toNatClampNeg 0 (rbN st r.toNatClampNeg) 0 0) (hWl : (putL st (rbF st r.toNatClampNeg) m.toNatClampNeg n0 g4 fresh (rbN st r.toNatClampNeg) (rbN st r.toNatClampNeg + 1) 0 0).length ≤ 400) : Ok (x9_puts r m n st) (PuQ st r.toNatClampNeg (putL st (rbF st r.toNatClampNeg) m.toNatClampNeg n0 g4 fresh (rbN st r.toNatClampNeg) (rbN st r.toNatClampNeg + 1) 0 0)) := by
  obtain ⟨l1, l2⟩ := hR r.toNatClampNeg (by rw [t_nat]; omega)
  unfold x9_puts
  refine Ok.callv (r_loads h1 h2 l2) (fun t ht => ?_)
  obtain ⟨hF, hb⟩ := ht
  have e0 : gF t 0 = gF st 0 := (hF.2 0 (by decide)).1
  have e1 : gF t 1 = gF st 1 := (hF.2 1 (by decide)).1
  have e2 : gF t 2 = gF st 2 := (hF.2 2 (by decide)).1
  have e3 : gF t 3 = gF st 3 := (hF.2 3 (by decide)).1
  have e8 : gF t 8 = gF st 8 := (hF.2 8 (by decide)).1
  have e29 : gF t 29 = gF st 29 := (hF.2 29 (by decide)).1
  have hS : MkS st t := ⟨e1, e2, e3, e8⟩
  have n29 : (rbN st r.toNatClampNeg : Int) = (gF st 29 r.toNatClampNeg).toInt := by unfold rbN; rw [t_nat (gF st 29 r.toNatClampNeg)]; omega
  have hb2 : ∀ k : Nat, k < rbN st r.toNatClampNeg → gF t 30 k = rbF st r.toNatClampNeg k := fun k hk => hb k (by omega)
  have hSt : Sd t (gF t 30) m.toNatClampNeg 0 (rbN st r.toNatClampNeg) 0 0 := by
    rw [hS.sd]
    exact (Sd.eq (fun i _ i2 => hb2 i i2)).mpr hSd
  simp only [Ok_gd, t_in, e29]
  have hmt : mkN t m := ⟨hm.1, hm.2.1, by rw [e0]; exact hm.2.2⟩
  have hMt := hM.fr e0 e1 e3 e8 (hF.2 6 (by decide)).2
  refine ⟨by omega, Ok.callv (r_wr l1 l2 hmt hMt hSt) (fun u hu => ?_)⟩
  obtain ⟨hFu, hl⟩ := hu
  have ew : wrR t (gF t 30) m.toNatClampNeg 0 (rbN st r.toNatClampNeg) = wrR st (rbF st r.toNatClampNeg) m.toNatClampNeg 0 (rbN st r.toNatClampNeg) := by
    rw [hS.wr]
    exact wrR_eq hSd (Nat.zero_le _) (fun i _ i2 => hb2 i i2)
  have hl : LyL u 0 (wrR t (gF t 30) m.toNatClampNeg 0 (rbN st r.toNatClampNeg)) := hl
  rw [ew] at hl
  have htm : tld st m.toNatClampNeg := ⟨by have := hm.1; have := hm.2.1; rw [t_nat]; omega, hm.2.2⟩
  have hle := wrR_len hM hSd htm (Nat.zero_le _) (by omega)
  have hl' := hl.1.i (by omega)
  simp only [Ok_gd, Ok_nam, t_in]
  have hF2 : Fr puI puF st u := (hF.d (by decide) (by decide)).tr (hFu.d (by decide) (by decide))
  refine ⟨by decide, r_pu27 st r m n _ g4 (rbF st r.toNatClampNeg) (rbN st r.toNatClampNeg) n0 fresh _ _ h1 h2 hm hM (by omega) (by rw [show (0 : Int32).toNatClampNeg = 0 from rfl]; exact hl') (by omega) rfl hSd h3 hn0 hl5 hg4 hfl hWl rfl fuel 0 0 u rfl (by omega) (by unfold fuel; omega) ?_ ?_ hl (fun j hj => absurd hj (by omega)) hF2 ?_ ?_⟩
  · rw [(hF2.1 56 (by decide)).1]; exact hfr.1
  · rw [(hF2.2 55 (by decide)).1]; exact hfr.2
  · rw [(hFu.2 28 (by decide)).1]; exact (hF.2 28 (by decide)).1
  · rw [(hFu.2 29 (by decide)).1]; exact e29
