/-! the reference's puts, with what came ahead of it -/
def GrI (r : RS) : Prop := ∀ m n, tld r m → hasN r m n → 0 ≤ (grN r m n).toInt
theorem MkS.md {st t : RS} (h : MkS st t) {f : Nat → Int32} {m n0 b : Nat} {g0 : Int32} : midL t f m n0 g0 b = midL st f m n0 g0 b := by
  obtain ⟨eh, ek, eg, ei⟩ := h.all
  funext a
  unfold midL goF pcB
  rw [eh, ek, eg, ei, h.wr]
theorem MkS.pu {st t : RS} (h : MkS st t) {f : Nat → Int32} {m n0 b : Nat} {g0 : Int32} {fresh : List Int32} : ∀ y p a, putL t f m n0 g0 fresh b y p a = putL st f m n0 g0 fresh b y p a := by
  intro y
  induction y with
  | zero => intro p a; rfl
  | succ y ih =>
    intro p a
    show pif (a < b) (pif (p = 0 ∧ n0 ≤ pNu f a) (fresh ++ (midL t f m n0 g0 b a ++ putL t f m n0 g0 fresh b y 1 (pTo f a b))) (midL t f m n0 g0 b a ++ putL t f m n0 g0 fresh b y p (pTo f a b))) (pif (p = 0) fresh []) = _
    rw [h.md, ih, ih]
    rfl
theorem RfK.puts {r t : RS} {a m n : Int32} {fresh : List Int32} {g4 : Int32} (hI : RI r) (hG : GrI r) (hK : RfK r t) (ha : rcN a) (hm : mkN r m) (hN : hasN r m.toNatClampNeg n.toNatClampNeg) (hg4 : g4 = pif (fresh.length = 0) 0 (grN r m.toNatClampNeg n.toNatClampNeg)) (hfl : fresh.length ≤ 136) (hfr : FrL t fresh) (hs : sdN r a m) : Ok (bnd (x9_puts a m n t) (fun x y => some (x, y))) (RfA r (seS a.toNatClampNeg (putL r (rbF r a.toNatClampNeg) m.toNatClampNeg n.toNatClampNeg g4 fresh (rbN r a.toNatClampNeg) (rbN r a.toNatClampNeg + 1) 0 0))) := by
  have hIt := hK.1.ri hI
  have ms := hK.1.ms
  obtain ⟨eh, ek, eg, ei⟩ := ms.all
  obtain ⟨eF, eN⟩ := hK.rb a.toNatClampNeg
  obtain ⟨w, hw⟩ := id hs
  have hn := rbN_le hI.2.1 ha.l
  have hlen := putL_len (n0 := n.toNatClampNeg) (g4 := g4) (fresh := fresh) hI.1 hm.t hn w (rbN r a.toNatClampNeg + 1) 0 0 0 0 hw (Nat.zero_le _)
  rw [pif_pos rfl] at hlen
  have hni := hN.i
  have h := r_pu (r := a) (m := m) (n := n) (st := t) (n0 := n.toNatClampNeg) (fresh := fresh) (g4 := g4) hIt.1 hIt.2.1 ha.1 ha.2 (hK.1.mk hm) (by rw [t_nat]; omega) (by rw [eh]; exact hN) (by rw [eg]; exact hG _ _ hm.t hN) (by rw [eg]; exact hg4) (by omega) hfr (by rw [eF, eN, ms.sd]; exact hs) (by rw [eF, eN, ms.pu]; omega)
  rw [eF, eN, ms.pu] at h
  refine Ok.call h (fun x y hxy => ?_)
  rw [Ok_some]
  obtain ⟨hF, hq⟩ := hxy
  have hF : Fr puI puF t y := hF
  unfold seS
  rcases hq with ⟨q1, q2, q3, q4⟩ | ⟨q1, q2, q3, q4⟩
  · rw [pif_pos q1]
    exact RfA.e q2 (hK.e hF (by decide) (by decide) q3 q4 q1)
  · have q2 : x = -4 := q2
    have q3 : gF y 28 = gF t 28 := q3
    have q4 : gF y 29 = gF t 29 := q4
    rw [pif_neg q1]
    exact RfA.n (by rw [q2]; rfl) ⟨⟨hK.1.1.tr (hF.d (by decide) (by decide)), hK.1.2.fr q4⟩, q3.trans hK.2.1, q4.trans hK.2.2⟩
theorem iV2 {n : Int32} (h0 : 0 ≤ n.toInt) (h1 : n.toInt ≤ 30) : (2 * n).toInt64 = iV (2 * n.toNatClampNeg) ∧ (2 * n + 1).toInt64 = iV (2 * n.toNatClampNeg + 1) := by
  have e : (n.toNatClampNeg : Int) = n.toInt := by rw [t_nat]; omega
  exact ⟨iV_of (by omega) (by rw [j_of, mul2 h0 h1]; omega), iV_of (by omega) (by rw [j_of, mul2p h0 h1]; omega)⟩
theorem r_drop2 {a m n : Int32} {st : RS} (hI : RI st) (hG : GrI st) : Ok (x9_drop a m n st) (RfA st (dropS st a m n)) := by
  unfold x9_drop
  have no : ¬ CbA st a m n → RfA st (dropS st a m n) (((-1) : Int32), st) := fun q => by
    unfold dropS
    rw [pif_neg q]
    exact RfA.n rfl (RfK.rf hI.2.1)
  refine Ok.bp r_isRecord (fun hr => ?_) (fun hr => ?_)
  case refine_2 => rw [pif_pos rfl, Ok_some]; exact no (fun q => hr q.1)
  rw [pif_neg (by decide)]
  refine Ok.bp r_isMake (fun hm => ?_) (fun hm => ?_)
  case refine_2 => rw [pif_pos rfl, Ok_some]; exact no (fun q => hm q.2.1)
  rw [pif_neg (by decide)]
  refine Ok.bp (r_has hm.1 hm.2.1) (fun hh => ?_) (fun hh => ?_)
  case refine_2 => rw [pif_pos rfl, Ok_some]; exact no (fun q => hh q.2.2)
  rw [pif_neg (by decide)]
  unfold dropS
  rw [pif_pos (show CbA st a m n from ⟨hr, hm, hh⟩)]
  refine Ok.rdd hr hm hI (fun t hK hs => ?_) (fun t N c hK hF hb hs hT => ?_)
  · rw [pif_pos rfl, Ok_some, pif_neg hs]
    exact RfA.n rfl hK
  rw [pif_neg (by decide), pif_pos hs, Ok_nam]
  have hF2 : Fr [56] [] t (sI t 56 0) := Fr.rf.sI (by decide)
  exact RfK.puts hI hG (hK.fr hF2 (by decide) (by decide) (by decide) (by decide)) hr hm hh (pif_pos rfl).symm (by decide) ⟨rfl, Hs.nil⟩ hs
/-- a fresh row: emptied, two varints laid -/
theorem r_two {β : Type} {st t : RS} {k1 k2 : Int64} {k : RS → Option β} {P : β → Prop} (hK : RfK st t) (hk : ∀ u, RfK st u → Fr [] [52, 53] t u → LyL u 0 (viL k1 ++ viL k2) → Ok (k u) P) : Ok (bnv (x9_laysVarint 0 k1 (sF t 53 (upd (gF t 53) (0 : Int32).toNatClampNeg 0))) (fun x => bnv (x9_laysVarint 0 k2 x) k)) P := by
  obtain ⟨w, ew⟩ : ∃ w, w = sF t 53 (upd (gF t 53) (0 : Int32).toNatClampNeg 0) := ⟨_, rfl⟩
  rw [← ew]
  have l0 : LyL w (0 : Int32).toNatClampNeg [] := ⟨by rw [ew]; rfl, Hs.nil⟩
  have hFw : Fr [] [53] t w := by rw [ew]; exact Fr.rf.sF (by decide)
  refine Ok.callv (r_laysVL (by decide) (by decide) l0 (by decide)) (fun x hx => ?_)
  have lx := hx.ly l0
  rw [List.nil_append] at lx
  have p1 := (viL_pos (v := k1)).2
  refine Ok.callv (r_laysVL (by decide) (by decide) lx (by show 160 * 0 + (viL k1).length + 10 ≤ 1440; omega)) (fun y hy => ?_)
  have ly := hy.ly lx
  have hFy : Fr [] [52, 53] t y := ((hFw.d (by decide) (by decide)).tr hx.1.1).tr hy.1.1
  exact hk y (hK.fr hFy (by decide) (by decide) (by decide) (by decide)) hFy ly
theorem r_set2 {a m n : Int32} {v : Int64} {st : RS} (hI : RI st) (hG : GrI st) : Ok (x9_set a m n v st) (RfA st (setS st a m n v)) := by
  unfold x9_set
  have no : ¬ (CbA st a m n ∧ (kdN st m.toNatClampNeg n.toNatClampNeg).toInt < 5) → RfA st (setS st a m n v) (((-1) : Int32), st) := fun q => by
    unfold setS
    rw [pif_neg q]
    exact RfA.n rfl (RfK.rf hI.2.1)
  refine Ok.bp r_isRecord (fun hr => ?_) (fun hr => ?_)
  case refine_2 => rw [pif_pos rfl, Ok_some]; exact no (fun q => hr q.1.1)
  rw [pif_neg (by decide)]
  refine Ok.bp r_isMake (fun hm => ?_) (fun hm => ?_)
  case refine_2 => rw [pif_pos rfl, Ok_some]; exact no (fun q => hm q.1.2.1)
  rw [pif_neg (by decide)]
  refine Ok.bp (r_has hm.1 hm.2.1) (fun hh => ?_) (fun hh => ?_)
  case refine_2 => rw [pif_pos rfl, Ok_some]; exact no (fun q => hh q.1.2.2)
  rw [pif_neg (by decide)]
  have hn := hh.i
  have e31 := i31 hm.1 hm.2.1 (show 0 ≤ n.toInt by omega) hn.2
  have e31n := i31n hm.1 hm.2.1 (show 0 ≤ n.toInt by omega) hn.2
  have hm1 := hm.1
  have hm2 := hm.2.1
  have ek : gF st 1 (31 * m.toNatClampNeg + n.toNatClampNeg) = kdN st m.toNatClampNeg n.toNatClampNeg := rfl
  rw [Ok_gd, t_in, e31, e31n, ek]
  refine ⟨by omega, ?_⟩
  by_cases c6 : (kdN st m.toNatClampNeg n.toNatClampNeg).toInt < 5
  case neg => rw [pif_neg (by rw [t_le, show (4 : Int32).toInt = 4 from rfl]; omega), Ok_some]; exact no (fun q => c6 q.2)
  unfold setS
  rw [pif_pos (by rw [t_le, show (4 : Int32).toInt = 4 from rfl]; omega), pif_pos (show CbA st a m n ∧ (kdN st m.toNatClampNeg n.toNatClampNeg).toInt < 5 from ⟨⟨hr, hm, hh⟩, c6⟩)]
  refine Ok.rdd hr hm hI (fun t hK hs => ?_) (fun t N c hK hF hb hs hT => ?_)
  · rw [pif_pos rfl, Ok_some, pif_neg hs]
    exact RfA.n rfl hK
  have ekt : gF t 1 (31 * m.toNatClampNeg + n.toNatClampNeg) = kdN st m.toNatClampNeg n.toNatClampNeg := by rw [hK.1.ms.1]; rfl
  rw [pif_neg (by decide), pif_pos hs, Ok_gd, ekt]
  refine ⟨by omega, Ok.bp r_isOf (fun c5 => ?_) (fun c5 => ?_)⟩
  case refine_2 =>
    rw [pif_pos rfl, Ok_some, pif_neg c5]
    exact RfA.n rfl hK
  rw [pif_neg (by decide), pif_pos c5]
  unfold x9_folded
  simp only [Ok_gd, Ok_nam]
  refine ⟨by rw [t_in]; decide, ?_⟩
  rw [(iV2 (show 0 ≤ n.toInt by omega) hn.2).1]
  refine r_two (k1 := iV (2 * n.toNatClampNeg)) (k2 := fold v) hK (fun u hu hFu hl => ?_)
  have p1 := viL_pos (v := iV (2 * n.toNatClampNeg))
  have p2 := viL_pos (v := fold v)
  have hlen : (viL (iV (2 * n.toNatClampNeg)) ++ viL (fold v)).length ≤ 20 := by rw [List.length_append]; omega
  refine Ok.callv (r_keepsL hl (by omega)) (fun y hy => ?_)
  exact RfK.puts hI hG (hu.fr hy.1 (by decide) (by decide) (by decide) (by decide)) hr hm hh (by rw [pif_neg (by rw [List.length_append]; omega)]) (by omega) hy.2 hs
theorem r_isT9l (b : Int32) (st : RS) (hb : b.toInt ≤ 400) : ∀ (n : Nat) (l : Int32), 0 ≤ l.toInt → l.toInt ≤ 1000 → (b.toInt - l.toInt).toNat < n → TxN (gF st 9) 0 l.toNatClampNeg → Ok (x9_isText_9_12 n b l st) (BP (TxN (gF st 9) 0 b.toNatClampNeg) st) := by
  intro n
  induction n with
  | zero => intro l h1 h2 h3; omega
  | succ n ih =>
    intro l h1 h2 h3 h4
    rw [x9_isText_9_12_s]
    simp only [Ok_pif, Ok_gd, Ok_nam, Ok_some]
    simp only [t_le, t_lt, t_in, Int32.reduceToInt]
    refine ⟨fun c => BP.y (fun k k1 k2 => h4 k k1 (by rw [t_nat] at *; omega)), fun c => ⟨by omega, fun d => BP.n (fun h => ?_), fun d => ⟨by omega, fun x => ?_, fun x => BP.n (fun h => ?_)⟩⟩⟩
    · have := h l.toNatClampNeg (Nat.zero_le _) (by rw [t_nat, t_nat]; omega)
      omega
    · have e : (l + 1).toInt = l.toInt + 1 := by rw [t_add (by simp; omega) (by simp; omega)]; rfl
      refine ih (l + 1) (by omega) (by omega) (by omega) (fun k k1 k2 => ?_)
      by_cases hk : k = l.toNatClampNeg
      · subst hk; omega
      · exact h4 k k1 (by rw [t_nat] at *; rw [e] at k2; omega)
    · have := h l.toNatClampNeg (Nat.zero_le _) (by rw [t_nat, t_nat]; omega)
      omega
theorem r_isT9 {b : Int32} {st : RS} {T : Nat} (h2 : b.toInt = T) (hb : T ≤ 400) : Ok (x9_isText_9 0 b st) (BP (T ≤ 0 + 12 ∧ TxN (gF st 9) 0 T) st) := by
  have bn : b.toNatClampNeg = T := by rw [t_nat]; omega
  unfold x9_isText_9
  simp only [Ok_pif, Ok_some]
  have e : (b - 0).toInt = b.toInt := by rw [t_sub (by show -2147483648 ≤ b.toInt - 0; omega) (by show b.toInt - 0 < 2147483648; omega)]; show b.toInt - 0 = _; omega
  rw [t_le, e, show (12 : Int32).toInt = 12 from rfl]
  refine ⟨fun c => ?_, fun c => BP.n (fun h => c (by have := h.1; omega))⟩
  refine (r_isT9l b st (by omega) fuel 0 (by decide) (by decide) (by rw [show (0 : Int32).toInt = 0 from rfl]; unfold fuel; omega) (fun k k1 k2 => absurd k2 (by rw [show (0 : Int32).toNatClampNeg = 0 from rfl]; omega))).mono (fun q hq => ?_)
  rw [bn] at hq
  rcases hq with ⟨h3, ⟨h4, h5⟩ | ⟨h4, h5⟩⟩
  · exact ⟨h3, Or.inl ⟨h4, by omega, h5⟩⟩
  · exact ⟨h3, Or.inr ⟨h4, fun h => h5 h.2⟩⟩
theorem r_say109L (s0 : RS) (hI : RI s0) (hG : GrI s0) (a m n b : Int32) (T : Nat) (K : List Int32) (hr : rcN a) (hm : mkN s0 m) (hN : hasN s0 m.toNatClampNeg n.toNatClampNeg) (hs : sdN s0 a m) (hb : b.toInt = T) (hT : T ≤ 12) (hK1 : 1 ≤ K.length) (hK2 : K.length ≤ 20) : ∀ (z i : Nat) (x : Int32) (t : RS), x.toInt = i → i ≤ T → T - i < z → RfK s0 t → gF t 9 = gF s0 9 → LyL t 0 (K ++ seg (gF s0 9) 0 i) → Ok (x9_say_109 z a m n b x t) (RfA s0 (seS a.toNatClampNeg (putL s0 (rbF s0 a.toNatClampNeg) m.toNatClampNeg n.toNatClampNeg (grN s0 m.toNatClampNeg n.toNatClampNeg) (K ++ seg (gF s0 9) 0 T) (rbN s0 a.toNatClampNeg) (rbN s0 a.toNatClampNeg + 1) 0 0))) := by
  intro z
  induction z with
  | zero => intro i x t a b c; omega
  | succ z ih =>
    intro i x t hx hi hz hKt e9 hl
    have e := inc (x := x) (by omega) (by omega)
    have xn : x.toNatClampNeg = i := by rw [t_nat]; omega
    have hlen : (K ++ seg (gF s0 9) 0 i).length = K.length + i := by rw [List.length_append, seg_len]; omega
    rw [x9_say_109_s]
    generalize x + 1 = x' at e ⊢
    simp only [Ok_pif, Ok_gd, t_in, t_le, hx, hb, xn, e9]
    refine ⟨fun c => ?_, fun c => ⟨by omega, ?_⟩⟩
    · have ei : i = T := by omega
      subst ei
      refine Ok.callv (r_keepsL hl (by omega)) (fun u hu => ?_)
      exact RfK.puts hI hG (hKt.fr hu.1 (by decide) (by decide) (by decide) (by decide)) hr hm hN (by rw [pif_neg (by omega)]) (by omega) hu.2 hs
    · refine Ok.callv (r_laysL (l := 0) (by decide) (by decide) hl (by show 160 * 0 + (K ++ seg (gF s0 9) 0 i).length < 1440; omega)) (fun u hu => ?_)
      rw [Ok_nam]
      have hu : LlP t 0 (K ++ seg (gF s0 9) 0 i) [gF s0 9 i] u := hu
      have h3 := hu.ly hl
      rw [List.append_assoc, ← seg_snoc (Nat.zero_le _)] at h3
      have hFu := hu.1.1
      exact ih (i + 1) x' u (by omega) (by omega) (by omega) (hKt.fr hFu (by decide) (by decide) (by decide) (by decide)) (by rw [(hFu.2 9 (by decide)).1]; exact e9) h3
theorem r_say2 {a m n : Int32} {st : RS} (hI : RI st) (hG : GrI st) : Ok (x9_say a m n st) (RfA (sI st 10 0) (sayS st a m n)) := by
  have hI0 : RI (sI st 10 0) := ⟨hI.1.fr rfl rfl rfl rfl rfl, hI.2.1.fr rfl, by show (0 : Int) ≤ (0 : Int32).toInt; decide, by show (0 : Int32).toInt ≤ 400; decide⟩
  have ms : MkS st (sI st 10 0) := ⟨rfl, rfl, rfl, rfl⟩
  have hG0 : GrI (sI st 10 0) := hG
  have hT := hI.tp
  have hT4 := hI.2.2.2
  have e9 : gF (sI st 10 0) 9 = gF st 9 := rfl
  have eb : ∀ j, rbF (sI st 10 0) j = rbF st j ∧ rbN (sI st 10 0) j = rbN st j := fun j => ⟨rfl, rfl⟩
  have ehk : hasN (sI st 10 0) = hasN st ∧ kdN (sI st 10 0) = kdN st ∧ grN (sI st 10 0) = grN st ∧ mkN (sI st 10 0) = mkN st ∧ gF (sI st 10 0) 1 = gF st 1 := ⟨rfl, rfl, rfl, rfl, rfl⟩
  unfold x9_say
  simp only [Ok_nam]
  generalize gI st 10 = b at hT hT4 ⊢
  generalize sI st 10 0 = s0 at hI0 ms hG0 e9 eb ehk ⊢
  obtain ⟨ehas, ekd, egr, emk, e1⟩ := ehk
  have esd : sdN s0 a m ↔ sdN st a m := by
    unfold sdN
    rw [(eb a.toNatClampNeg).1, (eb a.toNatClampNeg).2, ms.sd]
  have no : ¬ sayC st a m n → RfA s0 (sayS st a m n) (((-1) : Int32), s0) := fun q => by
    unfold sayS
    rw [pif_neg q]
    exact RfA.n rfl (RfK.rf hI0.2.1)
  refine Ok.bp r_isRecord (fun hr => ?_) (fun hr => ?_)
  case refine_2 => rw [pif_pos rfl, Ok_some]; exact no (fun q => hr q.1.1)
  rw [pif_neg (by decide)]
  refine Ok.bp r_isMake (fun hm => ?_) (fun hm => ?_)
  case refine_2 => rw [pif_pos rfl, Ok_some]; exact no (fun q => hm (by rw [emk]; exact q.1.2.1))
  rw [pif_neg (by decide)]
  refine Ok.bp (r_has hm.1 hm.2.1) (fun hh => ?_) (fun hh => ?_)
  case refine_2 => rw [pif_pos rfl, Ok_some]; exact no (fun q => hh (by rw [ehas]; exact q.1.2.2))
  rw [pif_neg (by decide)]
  have hn := hh.i
  have e31 := i31 hm.1 hm.2.1 (show 0 ≤ n.toInt by omega) hn.2
  have e31n := i31n hm.1 hm.2.1 (show 0 ≤ n.toInt by omega) hn.2
  have hm1 := hm.1
  have hm2 := hm.2.1
  have ek : gF s0 1 (31 * m.toNatClampNeg + n.toNatClampNeg) = kdN st m.toNatClampNeg n.toNatClampNeg := by rw [e1]; rfl
  rw [Ok_gd, t_in, e31, e31n, ek]
  refine ⟨by omega, ?_⟩
  by_cases c6 : kdN st m.toNatClampNeg n.toNatClampNeg = 5
  case neg => rw [pif_neg c6, Ok_some]; exact no (fun q => c6 q.2)
  unfold sayS
  rw [pif_pos c6, pif_pos (show sayC st a m n from ⟨⟨hr, by rw [← emk]; exact hm, by rw [← ehas]; exact hh⟩, c6⟩)]
  refine Ok.rdd hr hm hI0 (fun t hK hs => ?_) (fun t N c hK hF hb hs hTb => ?_)
  · rw [pif_pos rfl, Ok_some, pif_neg (fun q => hs (esd.mpr q))]
    exact RfA.n rfl hK
  rw [pif_neg (by decide), pif_pos (esd.mp hs)]
  have t9 : gF t 9 = gF st 9 := by rw [(hF.2 9 (by decide)).1, e9]
  refine Ok.bp (r_isT9 hT (by omega)) (fun c5 => ?_) (fun c5 => ?_)
  case refine_2 =>
    rw [t9] at c5
    rw [pif_pos rfl, Ok_some, pif_neg c5]
    exact RfA.n rfl hK
  rw [t9] at c5
  rw [pif_neg (by decide), pif_pos c5]
  simp only [Ok_gd, Ok_nam]
  refine ⟨by rw [t_in]; decide, ?_⟩
  have ebv : b.toInt64 = iV (tpK st) := iV_of (by omega) (by rw [j_of, hT])
  rw [(iV2 (show 0 ≤ n.toInt by omega) hn.2).2, ebv]
  refine r_two (k1 := iV (2 * n.toNatClampNeg + 1)) (k2 := iV (tpK st)) hK (fun u hu hFu hl => ?_)
  have p1 := viL_pos (v := iV (2 * n.toNatClampNeg + 1))
  have p2 := viL_pos (v := iV (tpK st))
  have c12 := c5.1
  have u9 : gF u 9 = gF s0 9 := by rw [(hFu.2 9 (by decide)).1, t9, e9]
  have h := r_say109L s0 hI0 hG0 a m n b (tpK st) (viL (iV (2 * n.toNatClampNeg + 1)) ++ viL (iV (tpK st))) hr hm hh hs hT (by omega) (by rw [List.length_append]; omega) (by rw [List.length_append]; omega) fuel 0 0 u rfl (Nat.zero_le _) (by unfold fuel; omega) hu u9 (by rw [seg_nil (Nat.le_refl _), List.append_nil]; exact hl)
  rw [(eb a.toNatClampNeg).1, (eb a.toNatClampNeg).2, ms.pu, egr, e9] at h
  exact h
theorem r_nest140L (s0 : RS) (hI : RI s0) (hG : GrI s0) (a m n : Int32) (w K : List Int32) (hr : rcN a) (hm : mkN s0 m) (hN : hasN s0 m.toNatClampNeg n.toNatClampNeg) (hs : sdN s0 a m) (hw : w.length ≤ 120) (hK1 : 1 ≤ K.length) (hK2 : K.length ≤ 16) : ∀ (z i : Nat) (x : Int32) (t : RS), x.toInt = i → i ≤ w.length → w.length - i < z → RfK s0 t → FrL t w → LyL t 0 (K ++ seg (ix w) 0 i) → Ok (x9_nest_140 z a m n x t) (RfA s0 (seS a.toNatClampNeg (putL s0 (rbF s0 a.toNatClampNeg) m.toNatClampNeg n.toNatClampNeg (grN s0 m.toNatClampNeg n.toNatClampNeg) (K ++ w) (rbN s0 a.toNatClampNeg) (rbN s0 a.toNatClampNeg + 1) 0 0))) := by
  intro z
  induction z with
  | zero => intro i x t a b c; omega
  | succ z ih =>
    intro i x t hx hi hz hKt hfr hl
    have e := inc (x := x) (by omega) (by omega)
    have xn : x.toNatClampNeg = i := by rw [t_nat]; omega
    have hlen : (K ++ seg (ix w) 0 i).length = K.length + i := by rw [List.length_append, seg_len]; omega
    rw [x9_nest_140_s]
    generalize x + 1 = x' at e ⊢
    simp only [Ok_pif, Ok_gd, t_in, t_le, hx, hfr.1, xn]
    refine ⟨fun c => ?_, fun c => ⟨by omega, ?_⟩⟩
    · have ei : i = w.length := by omega
      subst ei
      rw [seg_ix] at hl hlen
      refine Ok.callv (r_keepsL hl (by omega)) (fun u hu => ?_)
      exact RfK.puts hI hG (hKt.fr hu.1 (by decide) (by decide) (by decide) (by decide)) hr hm hN (by rw [pif_neg (by omega)]) (by omega) hu.2 hs
    · refine Ok.callv (r_laysL (l := 0) (by decide) (by decide) hl (by show 160 * 0 + (K ++ seg (ix w) 0 i).length < 1440; omega)) (fun u hu => ?_)
      rw [Ok_nam]
      have hu : LlP t 0 (K ++ seg (ix w) 0 i) [gF t 55 i] u := hu
      have h3 := hu.ly hl
      rw [hfr.2.g (by omega), List.append_assoc, ← seg_snoc (Nat.zero_le _)] at h3
      have hFu := hu.1.1
      exact ih (i + 1) x' u (by omega) (by omega) (by omega) (hKt.fr hFu (by decide) (by decide) (by decide) (by decide)) (hfr.fr (hFu.1 56 (by decide)).1 (hFu.2 55 (by decide)).1) h3
theorem r_nest2 {a m n o : Int32} {st : RS} (hI : RI st) (hG : GrI st) : Ok (x9_nest a m n o st) (RfA st (nestS st a m n o)) := by
  unfold x9_nest
  have no : ¬ nestC st a m n o → RfA st (nestS st a m n o) (((-1) : Int32), st) := fun q => by
    unfold nestS
    rw [pif_neg q]
    exact RfA.n rfl (RfK.rf hI.2.1)
  refine Ok.bp r_isRecord (fun hr => ?_) (fun hr => ?_)
  case refine_2 => rw [pif_pos rfl, Ok_some]; exact no (fun q => hr q.1.1)
  rw [pif_neg (by decide)]
  refine Ok.bp r_isRecord (fun ho => ?_) (fun ho => ?_)
  case refine_2 => rw [pif_pos rfl, Ok_some]; exact no (fun q => ho q.1.2.1)
  rw [pif_neg (by decide)]
  by_cases cao : a = o
  · rw [pif_pos cao, Ok_some]
    exact no (fun q => q.1.2.2 cao)
  rw [pif_neg cao]
  refine Ok.bp r_isMake (fun hm => ?_) (fun hm => ?_)
  case refine_2 => rw [pif_pos rfl, Ok_some]; exact no (fun q => hm q.2.1)
  rw [pif_neg (by decide)]
  refine Ok.bp (r_has hm.1 hm.2.1) (fun hh => ?_) (fun hh => ?_)
  case refine_2 => rw [pif_pos rfl, Ok_some]; exact no (fun q => hh q.2.2.1)
  rw [pif_neg (by decide)]
  have hn := hh.i
  have e31 := i31 hm.1 hm.2.1 (show 0 ≤ n.toInt by omega) hn.2
  have e31n := i31n hm.1 hm.2.1 (show 0 ≤ n.toInt by omega) hn.2
  have hm1 := hm.1
  have hm2 := hm.2.1
  have ek : gF st 1 (31 * m.toNatClampNeg + n.toNatClampNeg) = kdN st m.toNatClampNeg n.toNatClampNeg := rfl
  have ei : gF st 3 (31 * m.toNatClampNeg + n.toNatClampNeg) = iMk st m n := rfl
  rw [Ok_gd, t_in, e31, e31n, ek]
  refine ⟨by omega, ?_⟩
  by_cases c6 : kdN st m.toNatClampNeg n.toNatClampNeg = 6
  case neg => rw [pif_neg c6, Ok_some]; exact no (fun q => c6 q.2.2.2)
  unfold nestS
  rw [pif_pos c6, pif_pos (show nestC st a m n o from ⟨⟨hr, ho, cao⟩, hm, hh, c6⟩), Ok_gd, Ok_nam, ei]
  refine ⟨by omega, ?_⟩
  have hmi := iMk_mk hI.1 hm hh c6
  have ho4 : o.toNatClampNeg < 4 := rcN.l ho
  have hle := rbN_le hI.2.1 ho4
  refine Ok.rdd hr hm hI (fun t hK hs => ?_) (fun t N c hK hF hb hs hT => ?_)
  · rw [pif_pos rfl, Ok_some, pif_neg (fun q => hs q.1)]
    exact RfA.n rfl hK
  rw [pif_neg (by decide)]
  have hIt := hK.1.ri hI
  obtain ⟨eF, eN⟩ := hK.rb o.toNatClampNeg
  have esd : sdN t o (iMk st m n) ↔ sdN st o (iMk st m n) := by
    unfold sdN
    rw [eF, eN, hK.1.ms.sd]
  refine Ok.rdd ho (hK.1.mk hmi) hIt (fun t2 hK2 hs2 => ?_) (fun t2 N2 c2 hK2 hF2 hb2 hs2 hT2 => ?_)
  · have hK3 : RfK st t2 := ⟨⟨hK.1.1.tr hK2.1.1, hK2.1.2⟩, hK2.2.1.trans hK.2.1, hK2.2.2.trans hK.2.2⟩
    rw [pif_pos rfl, Ok_some, pif_neg (fun q => hs2 (esd.mpr q.2))]
    exact RfA.n rfl hK3
  have hK3 : RfK st t2 := ⟨⟨hK.1.1.tr hK2.1.1, hK2.1.2⟩, hK2.2.1.trans hK.2.1, hK2.2.2.trans hK.2.2⟩
  rw [eN, eF] at hb2
  have hso := esd.mp hs2
  have hI2 := hK3.1.ri hI
  obtain ⟨l1, l2⟩ := hI2.2.1 _ ho4
  have en : (gF t2 29 o.toNatClampNeg).toNatClampNeg = rbN st o.toNatClampNeg := by rw [hK3.2.2]; rfl
  have hSt : Sd t2 (gF t2 30) (iMk st m n).toNatClampNeg 0 (gF t2 29 o.toNatClampNeg).toNatClampNeg 0 0 := by
    rw [en, hK3.1.ms.sd]
    exact (Sd.eq (f := rbF st o.toNatClampNeg) (fun i _ hi => hb2 i hi)).mpr hso
  have eW : wrR t2 (gF t2 30) (iMk st m n).toNatClampNeg 0 (gF t2 29 o.toNatClampNeg).toNatClampNeg = neW st m n o := by
    rw [en, hK3.1.ms.wr]
    exact wrR_eq hso (Nat.zero_le _) (fun i _ hi => hb2 i hi)
  have hlen : (neW st m n o).length ≤ rbN st o.toNatClampNeg - 0 := wrR_len hI.1 hso hmi.t (Nat.zero_le _) hle
  rw [pif_neg (by decide), pif_pos ⟨hs, hso⟩]
  simp only [Ok_gd, t_in]
  refine ⟨by omega, Ok.callv (r_wr l1 l2 (hK3.1.mk hmi) hI2.1 hSt) (fun u hu => ?_)⟩
  obtain ⟨hFu, hl⟩ := hu
  rw [eW] at hl
  have hKu := hK3.fr hFu (by decide) (by decide) (by decide) (by decide)
  have eFr : neF st m n o = viL (iV (2 * n.toNatClampNeg + 1)) ++ viL (iV (neW st m n o).length) ++ neW st m n o := rfl
  rw [eFr]
  generalize neW st m n o = w at hl hlen ⊢
  refine Ok.callv (r_keepsL hl (by omega)) (fun v hv => ?_)
  obtain ⟨hFv, hfr⟩ := hv
  have hKv := hKu.fr hFv (by decide) (by decide) (by decide) (by decide)
  simp only [Ok_gd, Ok_nam]
  refine ⟨by decide, ?_⟩
  rw [(iV2 (show 0 ≤ n.toInt by omega) hn.2).2]
  obtain ⟨y0, ey⟩ : ∃ y0, y0 = sF v 53 (upd (gF v 53) (0 : Int32).toNatClampNeg 0) := ⟨_, rfl⟩
  rw [← ey]
  have l0 : LyL y0 (0 : Int32).toNatClampNeg [] := ⟨by rw [ey]; rfl, Hs.nil⟩
  have hFw : Fr [] [53] v y0 := by rw [ey]; exact Fr.rf.sF (by decide)
  have p1 := viL_pos (v := iV (2 * n.toNatClampNeg + 1))
  have p1' : (viL (iV (2 * n.toNatClampNeg + 1))).length = 1 := by
    have := hh.2.1
    rw [viL_k (by omega)]
    rfl
  have p2 := viL_pos (v := iV w.length)
  refine Ok.callv (r_laysVL (by decide) (by decide) l0 (by decide)) (fun x hx => ?_)
  have lx := hx.ly l0
  rw [List.nil_append] at lx
  have x56 : (gI x 56).toInt64 = iV w.length := iV_of (by omega) (by rw [j_of, (hx.1.1.1 56 (by decide)).1, (hFw.1 56 (by decide)).1]; exact hfr.1)
  rw [x56]
  refine Ok.callv (r_laysVL (by decide) (by decide) lx (by show 160 * 0 + (viL (iV (2 * n.toNatClampNeg + 1))).length + 10 ≤ 1440; omega)) (fun y hy => ?_)
  have ly := hy.ly lx
  have hFy : Fr [] [52, 53] v y := ((hFw.d (by decide) (by decide)).tr hx.1.1).tr hy.1.1
  exact r_nest140L st hI hG a m n w (viL (iV (2 * n.toNatClampNeg + 1)) ++ viL (iV w.length)) hr hm hh hs (by omega) (by rw [List.length_append]; omega) (by rw [List.length_append]; omega) fuel 0 0 y rfl (Nat.zero_le _) (by unfold fuel; omega) (hKv.fr hFy (by decide) (by decide) (by decide) (by decide)) (hfr.fr (hFy.1 56 (by decide)).1 (hFy.2 55 (by decide)).1) (by rw [seg_nil (Nat.le_refl _), List.append_nil]; exact ly)
