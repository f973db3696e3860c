theorem mul2 {x : Int32} (h0 : 0 ≤ x.toInt) (h1 : x.toInt ≤ 30) : (2 * x).toInt = 2 * x.toInt := by
  rw [t_mul (by show -2147483648 ≤ 2 * x.toInt; omega) (by show 2 * x.toInt < 2147483648; omega)]
  rfl
theorem mul2p {x : Int32} (h0 : 0 ≤ x.toInt) (h1 : x.toInt ≤ 30) : (2 * x + 1).toInt = 2 * x.toInt + 1 := by
  have e := mul2 h0 h1
  rw [t_add (by rw [e]; show -2147483648 ≤ 2 * x.toInt + 1; omega) (by rw [e]; show 2 * x.toInt + 1 < 2147483648; omega), e]
  rfl
theorem hasN.i {st : RS} {m : Nat} {n : Int32} (h : hasN st m n.toNatClampNeg) : 1 ≤ n.toInt ∧ n.toInt ≤ 30 := by
  have h1 := h.1
  have h2 := h.2.1
  rw [t_nat] at h1 h2
  omega
theorem Fr.kp {I F : List Nat} {st t : RS} (h : Fr I F st t) (hI : (I.all (fun k => kpI.contains k)) = true) (hF : (F.all (fun k => kpF.contains k)) = true) (hR : RcI t) : Kp st t := ⟨h.d hI hF, hR⟩
/-- a call of puts, whatever came ahead of it -/
theorem Kp.puts {st t : RS} {r m n : Int32} {fl : Nat} (hI : RI st) (h : Kp st t) (h1 : 0 ≤ r.toInt) (h2 : r.toInt < 4) (hm : mkN st m) (h3 : 0 ≤ n.toInt) (h3' : n.toInt ≤ 30) (hfl : fl ≤ 200) (h56 : (gI t 56).toInt = fl) (hS : SdR t r.toNatClampNeg m.toNatClampNeg) : Ok (bnd (x9_puts r m n t) (fun a b => some (a, b))) (fun q => Kp st q.2) := by
  have hT := h.ri hI
  refine Ok.call (r_puts hT.1 hT.2.1 h1 h2 ⟨hm.1, hm.2.1, by rw [(h.1.2 0 (by decide)).1]; exact hm.2.2⟩ h3 h3' hfl h56 hS) (fun a b hb => ?_)
  rw [Ok_some]
  exact ⟨h.1.tr (hb.1.d (by decide) (by decide)), hb.2⟩
theorem Kp.sd {st t : RS} {r m : Nat} (h : Fr rdI rdF st t) (hS : SdR st r m) : SdR t r m := hS.fr (h.2 1 (by decide)).1 (h.2 3 (by decide)).1 (h.2 8 (by decide)).1 (h.2 28 (by decide)).1 (h.2 29 (by decide)).1
theorem r_set {r m n : Int32} {v : Int64} {st : RS} (hI : RI st) : Ok (x9_set r m n v st) (fun q => Kp st q.2) := by
  have no : Kp st st := Kp.rf hI.2.1
  unfold x9_set
  refine Ok.bp r_isRecord (fun hr => ?_) (fun _ => ?_)
  case refine_2 => simp only [Ok_pif, Ok_some]; exact ⟨fun _ => no, fun h => absurd trivial h⟩
  simp only [Ok_pif, Ok_some]
  refine ⟨fun h => absurd h (by decide), fun _ => Ok.bp r_isMake (fun hm => ?_) (fun _ => ?_)⟩
  case refine_2 => simp only [Ok_pif, Ok_some]; exact ⟨fun _ => no, fun h => absurd trivial h⟩
  simp only [Ok_pif, Ok_some]
  refine ⟨fun h => absurd h (by decide), fun _ => Ok.bp (r_has hm.1 hm.2.1) (fun hh => ?_) (fun _ => ?_)⟩
  case refine_2 => simp only [Ok_pif, Ok_some]; exact ⟨fun _ => no, fun h => absurd trivial h⟩
  have hn := hh.i
  have e31 := i31 hm.1 hm.2.1 (show 0 ≤ n.toInt by omega) hn.2
  have hm1 := hm.1
  have hm2 := hm.2.1
  simp only [Ok_pif, Ok_some, Ok_gd, t_in, e31]
  refine ⟨fun h => absurd h (by decide), fun _ => ⟨by omega, fun _ => ?_, fun _ => no⟩⟩
  refine Ok.call (r_isRead hr.1 hr.2 hm hI.1 hI.2.1) (fun q t hq => ?_)
  have hF : Fr rdI rdF st t := hq.1
  have hKt : Kp st t := hF.kp (by decide) (by decide) (hI.2.1.fr (hF.2 29 (by decide)).1)
  simp only [Ok_pif, Ok_some, Ok_gd, e31]
  refine ⟨fun _ => hKt, fun hq0 => ⟨by omega, Ok.bp r_isOf (fun _ => ?_) (fun _ => ?_)⟩⟩
  case refine_2 => simp only [Ok_pif, Ok_some]; exact ⟨fun _ => hKt, fun h => absurd trivial h⟩
  have hS := hq.sd (hI.2.1 _ (by rw [t_nat]; omega)).1 hq0
  simp only [Ok_pif, Ok_gd, Ok_nam]
  refine ⟨fun h => absurd h (by decide), fun _ => ⟨by decide, ?_⟩⟩
  obtain ⟨w, ew⟩ : ∃ w, w = sF t 53 (upd (gF t 53) (0 : Int32).toNatClampNeg 0) := ⟨_, rfl⟩
  rw [← ew]
  have l0 : LyN w (0 : Int32).toNatClampNeg 0 := by rw [ew]; rfl
  have hFw : Fr [] [53] t w := by rw [ew]; exact Fr.rf.sF (by decide)
  have e2 := mul2 (show 0 ≤ n.toInt by omega) hn.2
  generalize 2 * n = key at e2 ⊢
  refine Ok.callv (r_laysVarint (by decide) (by decide) l0 (by decide)) (fun x hx => ?_)
  obtain ⟨k1, x1, x2, x3, x4⟩ := hx
  obtain rfl := one_byte (by omega) (by omega) x3 x2.1
  unfold x9_folded
  simp only [Ok_bnd, Ok_some]
  refine Ok.callv (r_laysVarint (by decide) (by decide) x1.2.1 (by decide)) (fun y hy => ?_)
  obtain ⟨k2, y1, y2, y3, y4⟩ := hy
  have := y2.2.1
  refine Ok.callv (r_keepsFresh (len := 0 + 1 + k2) y1.2.1 (by omega)) (fun u hu => ?_)
  have hFu : Fr [56] [52, 53, 55] t u := ((hFw.d (by decide) (by decide)).tr ((x1.tr y1).1.d (by decide) (by decide))).tr (hu.1.d (by decide) (by decide))
  have hKu : Kp st u := ⟨hKt.1.tr (hFu.d (by decide) (by decide)), hKt.2.fr (hFu.2 29 (by decide)).1⟩
  refine hKu.puts hI hr.1 hr.2 hm (by omega) hn.2 (by omega) hu.2 ?_
  exact (Kp.sd hF hS).fr (hFu.2 1 (by decide)).1 (hFu.2 3 (by decide)).1 (hFu.2 8 (by decide)).1 (hFu.2 28 (by decide)).1 (hFu.2 29 (by decide)).1
theorem r_drop {r m n : Int32} {st : RS} (hI : RI st) : Ok (x9_drop r m n st) (fun q => Kp st q.2) := by
  have no : Kp st st := Kp.rf hI.2.1
  unfold x9_drop
  refine Ok.bp r_isRecord (fun hr => ?_) (fun _ => ?_)
  case refine_2 => simp only [Ok_pif, Ok_some]; exact ⟨fun _ => no, fun h => absurd trivial h⟩
  simp only [Ok_pif, Ok_some]
  refine ⟨fun h => absurd h (by decide), fun _ => Ok.bp r_isMake (fun hm => ?_) (fun _ => ?_)⟩
  case refine_2 => simp only [Ok_pif, Ok_some]; exact ⟨fun _ => no, fun h => absurd trivial h⟩
  simp only [Ok_pif, Ok_some]
  refine ⟨fun h => absurd h (by decide), fun _ => Ok.bp (r_has hm.1 hm.2.1) (fun hh => ?_) (fun _ => ?_)⟩
  case refine_2 => simp only [Ok_pif, Ok_some]; exact ⟨fun _ => no, fun h => absurd trivial h⟩
  have hn := hh.i
  simp only [Ok_pif]
  refine ⟨fun h => absurd h (by decide), fun _ => ?_⟩
  refine Ok.call (r_isRead hr.1 hr.2 hm hI.1 hI.2.1) (fun q t hq => ?_)
  have hF : Fr rdI rdF st t := hq.1
  have hKt : Kp st t := hF.kp (by decide) (by decide) (hI.2.1.fr (hF.2 29 (by decide)).1)
  simp only [Ok_pif, Ok_some, Ok_nam]
  refine ⟨fun _ => hKt, fun hq0 => ?_⟩
  have hS := hq.sd (hI.2.1 _ (by rw [t_nat]; omega)).1 hq0
  have hFu : Fr [56] [] t (sI t 56 0) := Fr.rf.sI (by decide)
  have hKu : Kp st (sI t 56 0) := ⟨hKt.1.tr (hFu.d (by decide) (by decide)), hKt.2.fr (hFu.2 29 (by decide)).1⟩
  exact hKu.puts (fl := 0) hI hr.1 hr.2 hm (by omega) hn.2 (by omega) rfl ((Kp.sd hF hS).fr rfl rfl rfl rfl rfl)
theorem r_isText9l (b : Int32) (st : RS) (hb : b.toInt ≤ 400) : ∀ (n : Nat) (l : Int32), 0 ≤ l.toInt → l.toInt ≤ 1000 → (b.toInt - l.toInt).toNat < n → Ok (x9_isText_9_12 n b l st) (fun q => q.2 = st) := by
  intro n
  induction n with
  | zero => intro l h1 h2 h3; omega
  | succ n ih =>
    intro l h1 h2 h3
    rw [x9_isText_9_12_s]
    have e : (l + 1).toInt = l.toInt + 1 := by rw [t_add (by show -2147483648 ≤ l.toInt + 1; omega) (by show l.toInt + 1 < 2147483648; omega)]; rfl
    generalize l + 1 = l' at e ⊢
    simp only [Ok_pif, Ok_gd, Ok_nam, Ok_some]
    simp only [t_le, t_lt, t_in, Int32.reduceToInt]
    exact ⟨fun c => trivial, fun c => ⟨by omega, fun d => trivial, fun d => ⟨by omega, fun x => ih l' (by omega) (by omega) (by omega), fun x => trivial⟩⟩⟩
theorem r_isText9 {b : Int32} {st : RS} (h2 : 0 ≤ b.toInt) (hb : b.toInt ≤ 400) : Ok (x9_isText_9 0 b st) (fun q => q.2 = st ∧ (q.1 ≠ 0 → b.toInt ≤ 12)) := by
  unfold x9_isText_9
  simp only [Ok_pif, Ok_some]
  have e : (b - 0).toInt = b.toInt := by rw [t_sub (by show -2147483648 ≤ b.toInt - 0; omega) (by show b.toInt - 0 < 2147483648; omega)]; show b.toInt - 0 = _; omega
  rw [t_le, e, show (12 : Int32).toInt = 12 from rfl]
  refine ⟨fun c => ?_, fun c => ⟨trivial, fun h => absurd rfl h⟩⟩
  exact (r_isText9l b st hb fuel 0 (by decide) (by decide) (by rw [show (0 : Int32).toInt = 0 from rfl]; unfold fuel; omega)).mono (fun q hq => ⟨hq, fun _ => c⟩)
theorem r_say109 (st0 : RS) (hI : RI st0) (r m n b : Int32) (hr : 0 ≤ r.toInt ∧ r.toInt < 4) (hm : mkN st0 m) (hn : 1 ≤ n.toInt ∧ n.toInt ≤ 30) (hb : b.toInt ≤ 12) : ∀ (z i : Nat) (x : Int32) (t : RS) (len : Nat), x.toInt = i → i ≤ 12 → 12 - i < z → Fr [31, 32, 33, 34, 35, 36, 37, 38, 39, 40, 41] [30, 42, 43, 44, 45, 46, 47, 48, 49, 50, 51, 52, 53] st0 t → LyN t 0 len → len ≤ 2 + i → SdR t r.toNatClampNeg m.toNatClampNeg → Ok (x9_say_109 z r m n b x t) (fun q => Kp st0 q.2) := by
  intro z
  induction z with
  | zero => intro i x t len a b c; omega
  | succ z ih =>
    intro i x t len hx hi hz hF hl hlen hS
    have e : (x + 1).toInt = x.toInt + 1 := by rw [t_add (by show -2147483648 ≤ x.toInt + 1; omega) (by show x.toInt + 1 < 2147483648; omega)]; rfl
    rw [x9_say_109_s]
    generalize x + 1 = x' at e ⊢
    have hKt : Kp st0 t := ⟨hF.d (by decide) (by decide), hI.2.1.fr (hF.2 29 (by decide)).1⟩
    simp only [Ok_pif, Ok_gd, t_in]
    rw [t_le]
    refine ⟨fun c => ?_, fun c => ⟨by omega, ?_⟩⟩
    · refine Ok.callv (r_keepsFresh (len := len) hl (by omega)) (fun u hu => ?_)
      have hKu : Kp st0 u := ⟨hKt.1.tr (hu.1.d (by decide) (by decide)), hKt.2.fr (hu.1.2 29 (by decide)).1⟩
      exact hKu.puts hI hr.1 hr.2 hm (by omega) hn.2 (by omega) hu.2 (hS.fr (hu.1.2 1 (by decide)).1 (hu.1.2 3 (by decide)).1 (hu.1.2 8 (by decide)).1 (hu.1.2 28 (by decide)).1 (hu.1.2 29 (by decide)).1)
    · refine Ok.callv (r_lays (l := 0) (n := len) (by decide) (by decide) hl (by show 160 * 0 + len < 1440; omega)) (fun u hu => ?_)
      rw [Ok_nam]
      have hu := hu.1
      exact ih (i + 1) x' u (len + 1) (by omega) (by omega) (by omega) (hF.tr (hu.1.d (by decide) (by decide))) hu.2.1 (by omega) (hS.fr (hu.1.2 1 (by decide)).1 (hu.1.2 3 (by decide)).1 (hu.1.2 8 (by decide)).1 (hu.1.2 28 (by decide)).1 (hu.1.2 29 (by decide)).1)
/-- say: the tape goes, all else as with the others -/
theorem r_say {r m n : Int32} {st : RS} (hI : RI st) : Ok (x9_say r m n st) (fun q => Kp (sI st 10 0) q.2) := by
  have hI0 : RI (sI st 10 0) := ⟨hI.1.fr rfl rfl rfl rfl rfl, hI.2.1.fr rfl, by show (0 : Int) ≤ (0 : Int32).toInt; decide, by show (0 : Int32).toInt ≤ 400; decide⟩
  have hb1 := hI.2.2.1
  have hb2 := hI.2.2.2
  have no : Kp (sI st 10 0) (sI st 10 0) := Kp.rf hI0.2.1
  unfold x9_say
  simp only [Ok_nam]
  generalize gI st 10 = b at hb1 hb2 ⊢
  generalize sI st 10 0 = s0 at hI0 no ⊢
  refine Ok.bp r_isRecord (fun hr => ?_) (fun _ => ?_)
  case refine_2 => simp only [Ok_pif, Ok_some]; exact ⟨fun _ => no, fun h => absurd trivial h⟩
  simp only [Ok_pif, Ok_some]
  refine ⟨fun h => absurd h (by decide), fun _ => Ok.bp r_isMake (fun hm => ?_) (fun _ => ?_)⟩
  case refine_2 => simp only [Ok_pif, Ok_some]; exact ⟨fun _ => no, fun h => absurd trivial h⟩
  simp only [Ok_pif, Ok_some]
  refine ⟨fun h => absurd h (by decide), fun _ => Ok.bp (r_has hm.1 hm.2.1) (fun hh => ?_) (fun _ => ?_)⟩
  case refine_2 => simp only [Ok_pif, Ok_some]; exact ⟨fun _ => no, fun h => absurd trivial h⟩
  have hn := hh.i
  have e31 := i31 hm.1 hm.2.1 (show 0 ≤ n.toInt by omega) hn.2
  have hm1 := hm.1
  have hm2 := hm.2.1
  simp only [Ok_pif, Ok_some, Ok_gd, t_in, e31]
  refine ⟨fun h => absurd h (by decide), fun _ => ⟨by omega, fun _ => ?_, fun _ => no⟩⟩
  refine Ok.call (r_isRead hr.1 hr.2 hm hI0.1 hI0.2.1) (fun q t hq => ?_)
  have hF : Fr rdI rdF s0 t := hq.1
  have hKt : Kp s0 t := hF.kp (by decide) (by decide) (hI0.2.1.fr (hF.2 29 (by decide)).1)
  simp only [Ok_pif, Ok_some]
  refine ⟨fun _ => hKt, fun hq0 => Ok.call (r_isText9 hb1 hb2) (fun q2 t2 h2 => ?_)⟩
  obtain ⟨h2a, h2b⟩ := h2
  have h2a : t2 = t := h2a
  subst h2a
  have hS := hq.sd (hI0.2.1 _ (by rw [t_nat]; omega)).1 hq0
  simp only [Ok_pif, Ok_some, Ok_gd, Ok_nam]
  refine ⟨fun _ => hKt, fun hq2 => ⟨by decide, ?_⟩⟩
  have h12 : b.toInt ≤ 12 := h2b hq2
  obtain ⟨w, ew⟩ : ∃ w, w = sF t2 53 (upd (gF t2 53) (0 : Int32).toNatClampNeg 0) := ⟨_, rfl⟩
  rw [← ew]
  have l0 : LyN w (0 : Int32).toNatClampNeg 0 := by rw [ew]; rfl
  have hFw : Fr [] [53] t2 w := by rw [ew]; exact Fr.rf.sF (by decide)
  have e2 := mul2p (show 0 ≤ n.toInt by omega) hn.2
  generalize 2 * n + 1 = key at e2 ⊢
  refine Ok.callv (r_laysVarint (by decide) (by decide) l0 (by decide)) (fun x hx => ?_)
  obtain ⟨k1, x1, x2, x3, x4⟩ := hx
  obtain rfl := one_byte (by omega) (by omega) x3 x2.1
  refine Ok.callv (r_laysVarint (by decide) (by decide) x1.2.1 (by decide)) (fun y hy => ?_)
  obtain ⟨k2, y1, y2, y3, y4⟩ := hy
  obtain rfl := one_byte (by omega) (by omega) y3 y2.1
  have hFy : Fr [] [52, 53] t2 y := (hFw.d (by decide) (by decide)).tr ((x1.tr y1).1)
  exact r_say109 s0 hI0 r m n b hr hm hn h12 fuel 0 0 y 2 rfl (by omega) (by unfold fuel; omega) ((hF.d (by decide) (by decide)).tr (hFy.d (by decide) (by decide))) y1.2.1 (by omega) ((Kp.sd hF hS).fr (hFy.2 1 (by decide)).1 (hFy.2 3 (by decide)).1 (hFy.2 8 (by decide)).1 (hFy.2 28 (by decide)).1 (hFy.2 29 (by decide)).1)
theorem r_nest140 (st0 : RS) (hI : RI st0) (r m n : Int32) (fl : Nat) (hfl : fl ≤ 120) (hr : 0 ≤ r.toInt ∧ r.toInt < 4) (hm : mkN st0 m) (hn : 1 ≤ n.toInt ∧ n.toInt ≤ 30) : ∀ (z i : Nat) (x : Int32) (t : RS) (len : Nat), x.toInt = i → i ≤ fl → fl - i < z → (gI t 56).toInt = fl → Kp st0 t → LyN t 0 len → len ≤ 2 + i → SdR t r.toNatClampNeg m.toNatClampNeg → Ok (x9_nest_140 z r m n x t) (fun q => Kp st0 q.2) := by
  intro z
  induction z with
  | zero => intro i x t len a b c; omega
  | succ z ih =>
    intro i x t len hx hi hz h56 hKt hl hlen hS
    have e : (x + 1).toInt = x.toInt + 1 := by rw [t_add (by show -2147483648 ≤ x.toInt + 1; omega) (by show x.toInt + 1 < 2147483648; omega)]; rfl
    rw [x9_nest_140_s]
    generalize x + 1 = x' at e ⊢
    simp only [Ok_pif, Ok_gd, t_in]
    rw [t_le, h56]
    refine ⟨fun c => ?_, fun c => ⟨by omega, ?_⟩⟩
    · refine Ok.callv (r_keepsFresh (len := len) hl (by omega)) (fun u hu => ?_)
      have hKu : Kp st0 u := ⟨hKt.1.tr (hu.1.d (by decide) (by decide)), hKt.2.fr (hu.1.2 29 (by decide)).1⟩
      exact hKu.puts hI hr.1 hr.2 hm (by omega) hn.2 (by omega) hu.2 (hS.fr (hu.1.2 1 (by decide)).1 (hu.1.2 3 (by decide)).1 (hu.1.2 8 (by decide)).1 (hu.1.2 28 (by decide)).1 (hu.1.2 29 (by decide)).1)
    · refine Ok.callv (r_lays (l := 0) (n := len) (by decide) (by decide) hl (by show 160 * 0 + len < 1440; omega)) (fun u hu => ?_)
      rw [Ok_nam]
      have hu := hu.1
      exact ih (i + 1) x' u (len + 1) (by omega) (by omega) (by omega) (by rw [(hu.1.1 56 (by decide)).1]; exact h56) ⟨hKt.1.tr (hu.1.d (by decide) (by decide)), hKt.2.fr (hu.1.2 29 (by decide)).1⟩ hu.2.1 (by omega) (hS.fr (hu.1.2 1 (by decide)).1 (hu.1.2 3 (by decide)).1 (hu.1.2 8 (by decide)).1 (hu.1.2 28 (by decide)).1 (hu.1.2 29 (by decide)).1)
theorem Kp.mk {st t : RS} {m : Int32} (h : Kp st t) (hm : mkN st m) : mkN t m := ⟨hm.1, hm.2.1, by rw [(h.1.2 0 (by decide)).1]; exact hm.2.2⟩
theorem r_nest {r m n o : Int32} {st : RS} (hI : RI st) : Ok (x9_nest r m n o st) (fun q => Kp st q.2) := by
  have no : Kp st st := Kp.rf hI.2.1
  unfold x9_nest
  refine Ok.bp r_isRecord (fun hr => ?_) (fun _ => ?_)
  case refine_2 => simp only [Ok_pif, Ok_some]; exact ⟨fun _ => no, fun h => absurd trivial h⟩
  simp only [Ok_pif, Ok_some]
  refine ⟨fun h => absurd h (by decide), fun _ => Ok.bp r_isRecord (fun ho => ?_) (fun _ => ?_)⟩
  case refine_2 => simp only [Ok_pif, Ok_some]; exact ⟨fun _ => no, fun h => absurd trivial h⟩
  simp only [Ok_pif, Ok_some]
  refine ⟨fun h => absurd h (by decide), fun _ => ⟨fun _ => no, fun _ => Ok.bp r_isMake (fun hm => ?_) (fun _ => ?_)⟩⟩
  case refine_2 => simp only [Ok_pif, Ok_some]; exact ⟨fun _ => no, fun h => absurd trivial h⟩
  simp only [Ok_pif, Ok_some]
  refine ⟨fun h => absurd h (by decide), fun _ => Ok.bp (r_has hm.1 hm.2.1) (fun hh => ?_) (fun _ => ?_)⟩
  case refine_2 => simp only [Ok_pif, Ok_some]; exact ⟨fun _ => no, fun h => absurd trivial h⟩
  have hn := hh.i
  have e31 := i31 hm.1 hm.2.1 (show 0 ≤ n.toInt by omega) hn.2
  have e31n := i31n hm.1 hm.2.1 (show 0 ≤ n.toInt by omega) hn.2
  have hm1 := hm.1
  have hm2 := hm.2.1
  simp only [Ok_pif, Ok_some, Ok_gd, Ok_nam, t_in, e31, e31n]
  refine ⟨fun h => absurd h (by decide), fun _ => ⟨by omega, fun k6 => ⟨by omega, ?_⟩, fun _ => no⟩⟩
  obtain ⟨i1, i2, i3⟩ := (hI.1 m.toNatClampNeg n.toNatClampNeg (by rw [t_nat]; omega) hm.2.2 hh).2.1 k6
  have mn : (m.toNatClampNeg : Int) = m.toInt := by rw [t_nat]; omega
  have hmi : mkN st (gF st 3 (31 * m.toNatClampNeg + n.toNatClampNeg)) := ⟨i1, by omega, i3⟩
  generalize gF st 3 (31 * m.toNatClampNeg + n.toNatClampNeg) = by0 at hmi ⊢
  refine Ok.call (r_isRead hr.1 hr.2 hm hI.1 hI.2.1) (fun q t hq => ?_)
  have hF : Fr rdI rdF st t := hq.1
  have hKt : Kp st t := hF.kp (by decide) (by decide) (hI.2.1.fr (hF.2 29 (by decide)).1)
  simp only [Ok_pif, Ok_some]
  refine ⟨fun _ => hKt, fun hq0 => ?_⟩
  have hS := hq.sd (hI.2.1 _ (by rw [t_nat]; omega)).1 hq0
  have hSt := Kp.sd hF hS
  have hIt := hKt.ri hI
  refine Ok.call (r_isRead ho.1 ho.2 (hKt.mk hmi) hIt.1 hIt.2.1) (fun q2 t2 hq2 => ?_)
  have hF2 : Fr rdI rdF t t2 := hq2.1
  have hK2 : Kp st t2 := ⟨hKt.1.tr (hF2.d (by decide) (by decide)), hIt.2.1.fr (hF2.2 29 (by decide)).1⟩
  have hSt2 := Kp.sd hF2 hSt
  simp only [Ok_pif, Ok_some, Ok_gd]
  refine ⟨fun _ => hK2, fun hq20 => ⟨by omega, ?_⟩⟩
  have hI2 := hK2.ri hI
  have e29 : gF t2 29 = gF t 29 := (hF2.2 29 (by decide)).1
  obtain ⟨l1, l2⟩ := hI2.2.1 o.toNatClampNeg (by rw [t_nat]; omega)
  have hso : Snd t2 (gF t2 30) by0.toNatClampNeg 0 (gF t2 29 o.toNatClampNeg).toNatClampNeg := by
    rcases hq2.2.2 with h | ⟨_, h, _⟩
    · exact absurd h hq20
    · rw [e29]
      exact h.fr (hF2.2 1 (by decide)).1 (hF2.2 3 (by decide)).1 (hF2.2 8 (by decide)).1
  refine Ok.callv (r_writes l1 l2 (hK2.mk hmi) hI2.1 hso) (fun u hu => ?_)
  obtain ⟨hFu, len, hl, hle, -⟩ := hu
  have hle2 : len ≤ 120 := by rw [t_nat (gF t2 29 o.toNatClampNeg)] at hle; omega
  refine Ok.callv (r_keepsFresh hl (by omega)) (fun v hv => ?_)
  have hFv : Fr [31, 32, 33, 34, 35, 36, 37, 38, 56] [47, 48, 49, 50, 51, 52, 53, 54, 55] t2 v := (hFu.d (by decide) (by decide)).tr (hv.1.d (by decide) (by decide))
  simp only [Ok_gd, Ok_nam]
  refine ⟨by decide, ?_⟩
  obtain ⟨w, ew⟩ : ∃ w, w = sF v 53 (upd (gF v 53) (0 : Int32).toNatClampNeg 0) := ⟨_, rfl⟩
  rw [← ew]
  have l0 : LyN w (0 : Int32).toNatClampNeg 0 := by rw [ew]; rfl
  have hFw : Fr [] [53] v w := by rw [ew]; exact Fr.rf.sF (by decide)
  have e2 := mul2p (show 0 ≤ n.toInt by omega) hn.2
  generalize 2 * n + 1 = key at e2 ⊢
  refine Ok.callv (r_laysVarint (by decide) (by decide) l0 (by decide)) (fun x hx => ?_)
  obtain ⟨k1, x1, x2, x3, x4⟩ := hx
  obtain rfl := one_byte (by omega) (by omega) x3 x2.1
  have x56 : (gI x 56).toInt = len := by rw [(x1.1.1 56 (by decide)).1, (hFw.1 56 (by decide)).1]; exact hv.2
  refine Ok.callv (r_laysVarint (by decide) (by decide) x1.2.1 (by decide)) (fun y hy => ?_)
  obtain ⟨k2, y1, y2, y3, y4⟩ := hy
  obtain rfl := one_byte (by omega) (by omega) y3 y2.1
  have hFy : Fr [31, 32, 33, 34, 35, 36, 37, 38, 56] [47, 48, 49, 50, 51, 52, 53, 54, 55] t2 y := hFv.tr ((hFw.d (by decide) (by decide)).tr ((x1.tr y1).1.d (by decide) (by decide)))
  exact r_nest140 st hI r m n len hle2 hr hm hn fuel 0 0 y 2 rfl (by omega) (by unfold fuel; omega) (by rw [(y1.1.1 56 (by decide)).1]; exact x56) ⟨hK2.1.tr (hFy.d (by decide) (by decide)), hK2.2.fr (hFy.2 29 (by decide)).1⟩ y1.2.1 (by omega) (hSt2.fr (hFy.2 1 (by decide)).1 (hFy.2 3 (by decide)).1 (hFy.2 8 (by decide)).1 (hFy.2 28 (by decide)).1 (hFy.2 29 (by decide)).1)
theorem r_write {r m o : Int32} {st : RS} (hI : RI st) : Ok (x9_write r m o st) (fun q => Kp st q.2) := by
  have no : Kp st st := Kp.rf hI.2.1
  unfold x9_write
  refine Ok.bp r_isRecord (fun hr => ?_) (fun _ => ?_)
  case refine_2 => simp only [Ok_pif, Ok_some]; exact ⟨fun _ => no, fun h => absurd trivial h⟩
  simp only [Ok_pif, Ok_some]
  refine ⟨fun h => absurd h (by decide), fun _ => Ok.bp r_isRecord (fun ho => ?_) (fun _ => ?_)⟩
  case refine_2 => simp only [Ok_pif, Ok_some]; exact ⟨fun _ => no, fun h => absurd trivial h⟩
  simp only [Ok_pif, Ok_some]
  refine ⟨fun h => absurd h (by decide), fun _ => Ok.bp r_isMake (fun hm => ?_) (fun _ => ?_)⟩
  case refine_2 => simp only [Ok_pif, Ok_some]; exact ⟨fun _ => no, fun h => absurd trivial h⟩
  simp only [Ok_pif, Ok_some]
  refine ⟨fun h => absurd h (by decide), fun _ => ?_⟩
  refine Ok.call (r_isRead hr.1 hr.2 hm hI.1 hI.2.1) (fun q t hq => ?_)
  have hF : Fr rdI rdF st t := hq.1
  have hKt : Kp st t := hF.kp (by decide) (by decide) (hI.2.1.fr (hF.2 29 (by decide)).1)
  simp only [Ok_pif, Ok_some, Ok_gd, t_in]
  refine ⟨fun _ => hKt, fun hq0 => ⟨by omega, ?_⟩⟩
  have hIt := hKt.ri hI
  have e29 : gF t 29 = gF st 29 := (hF.2 29 (by decide)).1
  obtain ⟨l1, l2⟩ := hIt.2.1 r.toNatClampNeg (by rw [t_nat]; omega)
  have hso : Snd t (gF t 30) m.toNatClampNeg 0 (gF t 29 r.toNatClampNeg).toNatClampNeg := by
    rcases hq.2.2 with h | ⟨_, h, _⟩
    · exact absurd h hq0
    · rw [e29]
      exact h.fr (hF.2 1 (by decide)).1 (hF.2 3 (by decide)).1 (hF.2 8 (by decide)).1
  refine Ok.callv (r_writes l1 l2 (hKt.mk hm) hIt.1 hso) (fun u hu => ?_)
  obtain ⟨hFu, len, hl, hle, -⟩ := hu
  have hle2 : len ≤ 120 := by rw [t_nat (gF t 29 r.toNatClampNeg)] at hle; omega
  refine Ok.callv (r_comes ho.1 ho.2 hl hle2 (hIt.2.1.fr (hFu.2 29 (by decide)).1)) (fun v hv => ?_)
  simp only [Ok_gd, Ok_some, t_in]
  exact ⟨by omega, (hKt.1.tr (hFu.d (by decide) (by decide))).tr (hv.1.d (by decide) (by decide)), hv.2⟩
theorem r_open99 (st0 : RS) (o k : Int32) (P : Nat) (many : Int32) (ho : 0 ≤ o.toInt ∧ o.toInt < 4) (hR : RcI st0) (hm0 : 0 ≤ many.toInt) (hm1 : many.toInt ≤ 120) (hk : 0 < many.toInt → 0 ≤ k.toInt ∧ k.toInt < 30 ∧ 0 ≤ (gF st0 44 k.toNatClampNeg).toInt ∧ (gF st0 44 k.toNatClampNeg).toInt + many.toInt ≤ 120) : ∀ (z i : Nat) (x : Int32) (t : RS), x.toInt = i → (i : Int) ≤ many.toInt → 120 - i < z → Fr [] [28] st0 t → Ok (x9_open_99 z o k many x t) (fun q => Fr [] [28, 29] st0 q.2 ∧ RcI q.2) := by
  intro z
  induction z with
  | zero => intro i x t a b c; omega
  | succ z ih =>
    intro i x t hx hi hz hF
    have e : (x + 1).toInt = x.toInt + 1 := by rw [t_add (by show -2147483648 ≤ x.toInt + 1; omega) (by show x.toInt + 1 < 2147483648; omega)]; rfl
    have e44 : gF t 44 = gF st0 44 := (hF.2 44 (by decide)).1
    have e29 : gF t 29 = gF st0 29 := (hF.2 29 (by decide)).1
    have em : (120 * o).toInt = 120 * o.toInt := by
      rw [t_mul (by show -2147483648 ≤ 120 * o.toInt; omega) (by show 120 * o.toInt < 2147483648; omega)]
      rfl
    have ea : (120 * o + x).toInt = 120 * o.toInt + i := by rw [t_add (by omega) (by omega), em, hx]
    rw [x9_open_99_s]
    generalize x + 1 = x' at e ⊢
    simp only [Ok_pif, Ok_gd, Ok_nam, Ok_some, t_in, ea, e44]
    rw [t_le]
    refine ⟨fun c => ⟨by omega, (hF.d rfl rfl).sF (by decide), fun q hq => ?_⟩, fun c => ?_⟩
    · show 0 ≤ (upd (gF t 29) o.toNatClampNeg many q).toInt ∧ (upd (gF t 29) o.toNatClampNeg many q).toInt ≤ 120
      by_cases q2 : q = o.toNatClampNeg
      · rw [upd_eq q2]; omega
      · rw [upd_ne q2, e29]; exact hR q hq
    · obtain ⟨h1, h2, h3, h4⟩ := hk (by omega)
      have eb : (gF st0 44 k.toNatClampNeg + x).toInt = (gF st0 44 k.toNatClampNeg).toInt + i := by rw [t_add (by omega) (by omega), hx]
      rw [eb]
      exact ⟨by omega, by omega, by omega, ih (i + 1) x' _ (by omega) (by omega) (by omega) (hF.sF (by decide))⟩
theorem r_open {r m n o : Int32} {st : RS} (hI : RI st) : Ok (x9_open r m n o st) (fun q => Kp st q.2) := by
  have no : Kp st st := Kp.rf hI.2.1
  unfold x9_open
  refine Ok.bp r_isRecord (fun hr => ?_) (fun _ => ?_)
  case refine_2 => simp only [Ok_pif, Ok_some]; exact ⟨fun _ => no, fun h => absurd trivial h⟩
  simp only [Ok_pif, Ok_some]
  refine ⟨fun h => absurd h (by decide), fun _ => Ok.bp r_isRecord (fun ho => ?_) (fun _ => ?_)⟩
  case refine_2 => simp only [Ok_pif, Ok_some]; exact ⟨fun _ => no, fun h => absurd trivial h⟩
  simp only [Ok_pif, Ok_some]
  refine ⟨fun h => absurd h (by decide), fun _ => Ok.bp r_isMake (fun hm => ?_) (fun _ => ?_)⟩
  case refine_2 => simp only [Ok_pif, Ok_some]; exact ⟨fun _ => no, fun h => absurd trivial h⟩
  simp only [Ok_pif, Ok_some]
  refine ⟨fun h => absurd h (by decide), fun _ => Ok.bp (r_has hm.1 hm.2.1) (fun hh => ?_) (fun _ => ?_)⟩
  case refine_2 => simp only [Ok_pif, Ok_some]; exact ⟨fun _ => no, fun h => absurd trivial h⟩
  have hn := hh.i
  have e31 := i31 hm.1 hm.2.1 (show 0 ≤ n.toInt by omega) hn.2
  have hm1 := hm.1
  have hm2 := hm.2.1
  simp only [Ok_pif, Ok_some, Ok_gd, t_in, e31]
  refine ⟨fun h => absurd h (by decide), fun _ => ⟨by omega, fun _ => ?_, fun _ => no⟩⟩
  refine Ok.call (r_isRead hr.1 hr.2 hm hI.1 hI.2.1) (fun q t hq => ?_)
  have hF : Fr rdI rdF st t := hq.1
  have hKt : Kp st t := hF.kp (by decide) (by decide) (hI.2.1.fr (hF.2 29 (by decide)).1)
  obtain ⟨l1, l2⟩ := hI.2.1 r.toNatClampNeg (by rw [t_nat]; omega)
  simp only [Ok_pif, Ok_some]
  refine ⟨fun _ => hKt, fun hq0 => ?_⟩
  obtain ⟨c1, c2, c3, c4, c5⟩ : q = 1 ∧ _ := hq.2.2.resolve_left hq0
  refine Ok.call (r_pieceOf c4) (fun k t2 hk => ?_)
  obtain ⟨hk1, hk2⟩ := hk
  have hk1 : t2 = t := hk1
  subst hk1
  have fin : ∀ (many : Int32), 0 ≤ many.toInt → many.toInt ≤ 120 → (0 < many.toInt → 0 ≤ k.toInt ∧ k.toInt < 30 ∧ 0 ≤ (gF t2 44 k.toNatClampNeg).toInt ∧ (gF t2 44 k.toNatClampNeg).toInt + many.toInt ≤ 120) → Ok (x9_open_94 o k many t2) (fun q => Kp st q.2) := fun many h0 h1 h2 => (r_open99 t2 o k 0 many ho hKt.2 h0 h1 h2 fuel 0 0 t2 rfl (by omega) (by unfold fuel; omega) Fr.rf).mono (fun q hq => ⟨hKt.1.tr (hq.1.d (by decide) (by decide)), hq.2⟩)
  simp only [Ok_pif, Ok_gd, t_in]
  refine ⟨fun _ => fin 0 (by decide) (by decide) (fun h => absurd h (by decide)), fun hk0 => ?_⟩
  rcases hk2 with hk2 | hk2
  · exact absurd hk2 hk0
  have hk2 : 0 ≤ k.toInt ∧ k.toInt < (gI t2 41).toInt := hk2
  have c4 : (gI t2 41).toInt ≤ 30 := c4
  obtain ⟨d1, d2, d3⟩ := c5 k.toNatClampNeg (by show (k.toNatClampNeg : Int) < (gI t2 41).toInt; rw [t_nat]; omega)
  have d1 : 0 ≤ (gF t2 44 k.toNatClampNeg).toInt := d1
  have d2 : (gF t2 44 k.toNatClampNeg).toInt ≤ (gF t2 45 k.toNatClampNeg).toInt := d2
  have d3 : (gF t2 45 k.toNatClampNeg).toInt ≤ (gF st 29 r.toNatClampNeg).toInt := d3
  have es : (gF t2 45 k.toNatClampNeg - gF t2 44 k.toNatClampNeg).toInt = (gF t2 45 k.toNatClampNeg).toInt - (gF t2 44 k.toNatClampNeg).toInt := t_sub (by omega) (by omega)
  generalize gF t2 45 k.toNatClampNeg - gF t2 44 k.toNatClampNeg = many at es ⊢
  exact ⟨by omega, by omega, fin many (by omega) (by omega) (fun _ => by omega)⟩
theorem r_get {r m n w : Int32} {st : RS} (hI : RI st) : Ok (x9_get r m n w st) (fun q => Kp st q.2) := by
  have no : Kp st st := Kp.rf hI.2.1
  unfold x9_get
  refine Ok.bp r_isRecord (fun hr => ?_) (fun _ => ?_)
  case refine_2 => simp only [Ok_pif, Ok_some]; exact ⟨fun _ => no, fun h => absurd trivial h⟩
  simp only [Ok_pif, Ok_some]
  refine ⟨fun h => absurd h (by decide), fun _ => Ok.bp r_isMake (fun hm => ?_) (fun _ => ?_)⟩
  case refine_2 => simp only [Ok_pif, Ok_some]; exact ⟨fun _ => no, fun h => absurd trivial h⟩
  simp only [Ok_pif, Ok_some]
  refine ⟨fun h => absurd h (by decide), fun _ => Ok.bp (r_has hm.1 hm.2.1) (fun hh => ?_) (fun _ => ?_)⟩
  case refine_2 => simp only [Ok_pif, Ok_some]; exact ⟨fun _ => no, fun h => absurd trivial h⟩
  have hn := hh.i
  have e31 := i31 hm.1 hm.2.1 (show 0 ≤ n.toInt by omega) hn.2
  have hm1 := hm.1
  have hm2 := hm.2.1
  have go : Ok (x9_get_35 r m n w st) (fun q => Kp st q.2) := by
    unfold x9_get_35
    refine Ok.call (r_isRead hr.1 hr.2 hm hI.1 hI.2.1) (fun q t hq => ?_)
    have hF : Fr rdI rdF st t := hq.1
    have hKt : Kp st t := hF.kp (by decide) (by decide) (hI.2.1.fr (hF.2 29 (by decide)).1)
    simp only [Ok_pif, Ok_some]
    refine ⟨fun _ => hKt, fun hq0 => ?_⟩
    obtain ⟨c1, c2, c3, c4, c5⟩ : q = 1 ∧ _ := hq.2.2.resolve_left hq0
    refine Ok.call (r_pieceOf c4) (fun k t2 hk => ?_)
    obtain ⟨hk1, hk2⟩ := hk
    have hk1 : t2 = t := hk1
    subst hk1
    have c4 : (gI t2 41).toInt ≤ 30 := c4
    simp only [Ok_pif, Ok_gd, Ok_some, t_in, e31]
    refine ⟨fun _ => ⟨fun _ => hKt, fun _ => hKt⟩, fun _ => ⟨fun _ => Ok.call r_plain (fun a b hab => ?_), fun hk0 => ?_⟩⟩
    · have hab : b = t2 := hab
      subst hab
      rw [Ok_some]
      exact hKt
    · rcases hk2 with hk2 | hk2
      · exact absurd hk2 hk0
      have hk2 : 0 ≤ k.toInt ∧ k.toInt < (gI t2 41).toInt := hk2
      exact ⟨by omega, fun _ => ⟨by omega, hKt⟩, fun _ => ⟨by omega, by omega, hKt⟩⟩
  simp only [Ok_pif, Ok_some]
  exact ⟨fun h => absurd h (by decide), fun _ => ⟨fun _ => go, fun _ => ⟨fun _ => go, fun _ => no⟩⟩⟩
theorem r_at {r i : Int32} {st : RS} (hI : RI st) : Ok (x9_at r i st) (fun q => q.2 = st) := by
  unfold x9_at
  refine Ok.bp r_isRecord (fun hr => ?_) (fun _ => ?_)
  case refine_2 => simp only [Ok_pif, Ok_some]; exact ⟨fun _ => trivial, fun h => absurd trivial h⟩
  obtain ⟨l1, l2⟩ := hI.2.1 r.toNatClampNeg (by rw [t_nat]; omega)
  simp only [Ok_pif, Ok_some, Ok_gd, t_in]
  rw [t_lt, t_le, show (0 : Int32).toInt = 0 from rfl]
  have em : (120 * r).toInt = 120 * r.toInt := by
    rw [t_mul (by show -2147483648 ≤ 120 * r.toInt; omega) (by show 120 * r.toInt < 2147483648; omega)]
    rfl
  refine ⟨fun h => absurd h (by decide), fun _ => ⟨fun _ => trivial, fun c => ⟨by omega, fun _ => trivial, fun d => ⟨?_, trivial⟩⟩⟩⟩
  rw [t_add (by omega) (by omega), em]
  omega
theorem r_clear {r : Int32} {st : RS} (hI : RI st) : Ok (x9_clear r st) (fun q => Kp st q.2) := by
  unfold x9_clear
  refine Ok.bp r_isRecord (fun hr => ?_) (fun _ => ?_)
  case refine_2 => simp only [Ok_pif, Ok_some]; exact ⟨fun _ => Kp.rf hI.2.1, fun h => absurd trivial h⟩
  simp only [Ok_pif, Ok_some, Ok_gd, Ok_nam, t_in]
  refine ⟨fun h => absurd h (by decide), fun _ => ⟨by omega, by omega, Fr.rf.sF (by decide), fun q hq => ?_⟩⟩
  show 0 ≤ (upd (gF st 29) r.toNatClampNeg 0 q).toInt ∧ (upd (gF st 29) r.toNatClampNeg 0 q).toInt ≤ 120
  by_cases q2 : q = r.toNatClampNeg
  · rw [upd_eq q2]; decide
  · rw [upd_ne q2]; exact hI.2.1 q hq
theorem r_field {m n w : Int32} {st : RS} : Ok (x9_field_ m n w st) (fun q => q.2 = st) := by
  unfold x9_field_
  refine Ok.bp r_isField (fun hm => ?_) (fun hm => ?_)
  · obtain ⟨hm, h3, h4, h5⟩ := hm
    have h1 := hm.1
    have h2 := hm.2.1
    have e := i31 h1 h2 (show 0 ≤ n.toInt by omega) (by omega)
    simp only [Ok_pif, Ok_gd, Ok_some, Ok_nam, t_in, e]
    exact ⟨fun h => absurd h (by decide), fun _ => ⟨fun _ => ⟨by omega, trivial⟩, fun _ => ⟨fun _ => ⟨by omega, trivial⟩, fun _ => ⟨fun _ => ⟨by omega, fun _ => ⟨by omega, trivial⟩, fun _ => trivial⟩, fun _ => ⟨fun _ => ⟨by omega, trivial⟩, fun _ => trivial⟩⟩⟩⟩⟩
  · simp only [Ok_pif, Ok_some]
    exact ⟨fun _ => trivial, fun h => absurd trivial h⟩
