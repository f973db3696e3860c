theorem Pc1.of {f : Nat → Int32} {a E k1 k2 : Nat} (h : PcK f a E k1 k2) (hs : ¬ psh (vacc f a k1) (vacc f (a + k1) k2) (a + k1 + k2) E) : Pc1 f a (pto (vacc f a k1) (vacc f (a + k1) k2) (a + k1 + k2) E).toNat := by
  have r := pto_r (vacc f a k1) (vacc f (a + k1) k2) (a + k1 + k2) E h.2.2
  refine ⟨k1, k2, ⟨h.1, h.2.1, by omega⟩, fun q => ?_, fun q => ?_⟩
  · unfold pto
    rw [pif_neg (fun c => q c.1)]
    omega
  · have e : pto (vacc f a k1) (vacc f (a + k1) k2) (a + k1 + k2) E = ((a + k1 + k2 : Nat) : Int) + (vacc f (a + k1) k2).toInt := by
      unfold pto
      rw [pif_pos ⟨q, hs⟩]
    rw [← e]
    omega
/-- a piece with a length, its key and its length a byte each -/
theorem Pc1.long {g : Nat → Int32} {q len : Nat} (h1 : Vd g q 1) (h2 : Vd g (q + 1) 1) (k1 : (g q).toInt % 2 = 1) (k0 : 0 ≤ (g q).toInt) (l0 : (g (q + 1)).toInt = len) : Pc1 g q (q + 2 + len) := by
  have a1 : (g q).toInt < 128 := h1.2.2.2.1
  have a2 : (g (q + 1)).toInt < 128 := h2.2.2.2.1
  have v1 := vacc_1 (f := g) (p := q) k0 a1
  have v2 := vacc_1 (f := g) (p := q + 1) (by omega) a2
  refine ⟨1, 1, ⟨h1, h2, by omega⟩, fun h => absurd ((plg_odd _).mpr (by omega)) h, fun _ => ?_⟩
  rw [v2.2]
  omega
/-- a piece with a number, its key a byte -/
theorem Pc1.num {g : Nat → Int32} {q k : Nat} (h1 : Vd g q 1) (h2 : Vd g (q + 1) k) (k1 : (g q).toInt % 2 = 0) (k0 : 0 ≤ (g q).toInt) : Pc1 g q (q + 1 + k) := by
  have a1 : (g q).toInt < 128 := h1.2.2.2.1
  have v1 := vacc_1 (f := g) (p := q) k0 a1
  exact ⟨1, k, ⟨h1, h2, by omega⟩, fun _ => rfl, fun h => by have := (plg_odd _).mp h; omega⟩
def wrI : List Nat := [31, 32, 33, 34, 35, 36, 37, 38]
def wrF : List Nat := [47, 48, 49, 50, 51, 52, 53, 54]
/-- what stands while writes() goes down and up -/
def WrI (st0 : RS) (n D : Nat) (S ℓ : Nat → Nat) (st : RS) : Prop :=
  Fr wrI wrF st0 st ∧
  (∀ d, d < D → 0 ≤ (gF st 47 d).toInt ∧ (gF st 47 d).toInt + d ≤ 7 ∧ gF st0 0 (gF st 47 d).toNatClampNeg ≠ 0 ∧ 0 ≤ (gF st 48 d).toInt ∧ (gF st 48 d).toInt ≤ (gF st 49 d).toInt ∧ (gF st 49 d).toInt ≤ n ∧ Snd st0 (gF st0 30) (gF st 47 d).toNatClampNeg (gF st 48 d).toNatClampNeg (gF st 49 d).toNatClampNeg) ∧
  (∀ d, d + 1 < D → (gF st 48 d).toInt = (gF st 49 (d + 1)).toInt) ∧
  S 0 = 0 ∧
  (∀ d, d < D → LyN st d (ℓ d) ∧ (d + 1 = D → (ℓ d + S d : Int) ≤ (gF st 48 d).toInt) ∧ (d + 1 < D → ℓ d + S d + 2 ≤ S (d + 1) ∧ (S (d + 1) : Int) ≤ (gF st 48 (d + 1)).toInt)) ∧
  (∀ d, 0 < d → d < D → 3 ≤ (gF st 54 d).toInt ∧ (gF st 54 d).toInt ≤ 61 ∧ (gF st 54 d).toInt % 2 = 1) ∧
  Pcs (gF st 52) 0 (ℓ 0)
/-- what writes() does -/
def WrP (st0 : RS) (n : Nat) (t : RS) : Prop := Fr wrI wrF st0 t ∧ ∃ len, LyN t 0 len ∧ len ≤ n ∧ Pcs (gF t 52) 0 len
theorem one_byte {x : Int32} (h0 : 0 ≤ x.toInt) (h1 : x.toInt < 128) {k : Nat} (hk : ∀ j, 1 ≤ j → uN x.toInt64 < 2 ^ (7 * j) → k ≤ j) (hk1 : 1 ≤ k) : k = 1 := by
  have e := uN_of32 h0
  have := hk 1 (by omega) (by show uN x.toInt64 < 128; omega)
  omega
set_option maxHeartbeats 4000000 in
theorem r_writes20 (st0 : RS) (n : Nat) (hn : n ≤ 120) (hM : MkI st0) : ∀ (z D : Nat) (S ℓ : Nat → Nat) (l : Int32) (st : RS), l.toInt = D → D ≤ 7 → WrI st0 n (D + 1) S ℓ st → n - (gF st 48 D).toNatClampNeg + D + 2 < z → Ok (x9_writes_20 z l 1 st) (WrP st0 n) := by
  intro z
  induction z with
  | zero => intro D S ℓ l st h1 h2 h3 h4; omega
  | succ z ih =>
    intro D S ℓ l st hl hD hI hz
    obtain ⟨hF, hL, hC, hS0, hG, hK, hQ⟩ := id hI
    obtain ⟨a1, a2, a3, a4, a5, a6, a7⟩ := hL D (by omega)
    obtain ⟨g1, g2, -⟩ := hG D (by omega)
    have g2 := g2 rfl
    have lD : l.toNatClampNeg = D := by rw [t_nat]; omega
    have e30 : gF st 30 = gF st0 30 := (hF.2 30 (by decide)).1
    rw [x9_writes_20_s]
    simp only [Ok_pif, Ok_gd, Ok_nam, t_in, lD]
    refine ⟨fun h => absurd h (by decide), fun _ => ⟨by omega, by omega, fun ce => ?_, fun ce => ?_⟩⟩
    · -- a level is through
      rw [t_le, show (0 : Int32).toInt = 0 from rfl]
      refine ⟨fun c => ?_, fun c => ?_⟩
      · have : D = 0 := by omega
        subst this
        unfold x9_writes_53
        simp only [Ok_pif]
        refine ⟨fun _ => ?_, fun h => absurd trivial h⟩
        obtain ⟨z', rfl⟩ : ∃ z', z = z' + 1 := ⟨z - 1, by omega⟩
        rw [x9_writes_20_s]
        simp only [Ok_pif, Ok_some]
        refine ⟨fun _ => ⟨hF, ℓ 0, g1, by omega, hQ⟩, fun h => absurd trivial h⟩
      · unfold x9_writes_53
        simp only [Ok_pif, Ok_gd, Ok_nam]
        refine ⟨fun h => absurd h (by decide), fun _ => ?_⟩
        obtain ⟨E, rfl⟩ : ∃ E, D = E + 1 := ⟨D - 1, by omega⟩
        have e1 : (l + (-1)).toInt = E := by rw [t_add (by show -2147483648 ≤ l.toInt + (-1); omega) (by show l.toInt + (-1) < 2147483648; omega)]; show l.toInt + (-1) = _; omega
        generalize l + (-1) = k at e1 ⊢
        have kE : k.toNatClampNeg = E := by rw [t_nat]; omega
        have e2 : (k + 1).toInt = E + 1 := by rw [t_add (by show -2147483648 ≤ k.toInt + 1; omega) (by show k.toInt + 1 < 2147483648; omega)]; show k.toInt + 1 = _; omega
        have e2n : (k + 1).toNatClampNeg = E + 1 := by rw [t_nat, e2]; omega
        obtain ⟨b1, b2, b3, b4, b5, b6, b7⟩ := hL E (by omega)
        obtain ⟨f1, -, f3⟩ := hG E (by omega)
        obtain ⟨f3, f4⟩ := f3 (by omega)
        obtain ⟨c1, c2, c3⟩ := hK (E + 1) (by omega) (by omega)
        have hCE := hC E (by omega)
        have ce : gF st 48 (E + 1) = gF st 49 (E + 1) := ce
        have ceI : (gF st 48 (E + 1)).toInt = (gF st 49 (E + 1)).toInt := by rw [ce]
        simp only [t_in, e2, e2n]
        refine ⟨by omega, Ok.callv (r_laysVarint (by omega) (by omega) (by rw [kE]; exact f1) (by rw [kE]; omega)) (fun u hu => ?_)⟩
        rw [kE] at hu
        obtain ⟨j1, hu1, hu2, hu3, hu4⟩ := hu
        obtain rfl := one_byte (by omega) (by omega) hu3 hu2.1
        have hu4 := hu4 rfl
        rw [uN_of32 (by omega)] at hu4
        have u53 : gF u 53 (E + 1) = gF st 53 (E + 1) := hu1.2.2.1 _ (by omega)
        have u53i : (gF u 53 (E + 1)).toInt = ℓ (E + 1) := by rw [u53]; exact g1.i (by omega)
        rw [Ok_gd]
        refine ⟨by omega, Ok.callv (r_laysVarint (by omega) (by omega) (by rw [kE]; exact hu1.2.1) (by rw [kE]; omega)) (fun w hw => ?_)⟩
        rw [kE] at hw
        obtain ⟨j2, hw1, hw2, hw3, hw4⟩ := hw
        obtain rfl := one_byte (by omega) (by omega) hw3 hw2.1
        have hw4 := hw4 rfl
        rw [uN_of32 (by omega), u53i] at hw4
        have hT := hu1.tr hw1
        rw [show (0 : Int32) = 0 from rfl]
        have w53 : LyN w (E + 1) (ℓ (E + 1)) := by
          unfold LyN
          rw [hw1.2.2.1 _ (by omega), u53]
          exact g1
        refine r_w97 (WrP st0 n) (x9_writes_20 z) k 1 w (ℓ E + 2) (ℓ (E + 1)) (by omega) (by omega) (by rw [kE]; exact w53) (by omega) (by omega) (fun t ht hcp => ?_) fuel 0 0 w rfl (by omega) (by unfold fuel; omega) (LaP.rf (by rw [kE]; exact hw1.2.1)) (fun j hj => absurd hj (by omega))
        rw [kE] at ht hcp
        have hT2 := hT.tr ht
        have k48 : gF t 48 = gF st 48 := (hT2.1.2 48 (by decide)).1
        have k47 : gF t 47 = gF st 47 := (hT2.1.2 47 (by decide)).1
        have k49 : gF t 49 = gF st 49 := (hT2.1.2 49 (by decide)).1
        have k54 : gF t 54 = gF st 54 := (hT2.1.2 54 (by decide)).1
        have hFt : Fr wrI wrF st0 t := hF.tr (hT2.1.d (by decide) (by decide))
        refine ih E S (fun d => if d = E then ℓ E + 2 + ℓ (E + 1) else ℓ d) k t e1 (by omega) ⟨hFt, fun d hd => ?_, fun d hd => ?_, hS0, fun d hd => ?_, fun d hd1 hd2 => ?_, ?_⟩ ?_
        · rw [k47, k48, k49]; exact hL d (by omega)
        · rw [k48, k49]; exact hC d (by omega)
        · show LyN t d (if d = E then ℓ E + 2 + ℓ (E + 1) else ℓ d) ∧ (d + 1 = E + 1 → (((if d = E then ℓ E + 2 + ℓ (E + 1) else ℓ d : Nat) + S d : Int)) ≤ _) ∧ (d + 1 < E + 1 → (if d = E then ℓ E + 2 + ℓ (E + 1) else ℓ d) + S d + 2 ≤ S (d + 1) ∧ _)
          by_cases q : d = E
          · subst q
            rw [if_pos rfl, k48]
            refine ⟨?_, fun _ => by omega, fun h => absurd h (by omega)⟩
            have := ht.2.1
            exact this
          · rw [if_neg q, k48]
            obtain ⟨q1, q2, q3⟩ := hG d (by omega)
            refine ⟨?_, fun h => absurd h (by omega), fun h => q3 (by omega)⟩
            unfold LyN
            rw [hT2.2.2.1 d q]
            exact q1
        · rw [k54]; exact hK d hd1 (by omega)
        · show Pcs (gF t 52) 0 (if 0 = E then ℓ E + 2 + ℓ (E + 1) else ℓ 0)
          by_cases q : 0 = E
          · rw [if_pos q]
            subst q
            have o1 : gF t 52 (ℓ 0) = gF u 52 (160 * 0 + ℓ 0) := by
              rw [show 160 * 0 + ℓ 0 = ℓ 0 by omega, ht.2.2.2 _ (Or.inl (by omega)), hw1.2.2.2 _ (Or.inl (by omega))]
            have o2 : gF t 52 (ℓ 0 + 1) = gF w 52 (160 * 0 + (ℓ 0 + 1)) := by
              rw [show 160 * 0 + (ℓ 0 + 1) = ℓ 0 + 1 by omega, ht.2.2.2 _ (Or.inl (by omega))]
            refine (hQ.same (fun i _ hi => hT2.2.2.2 i (Or.inl (by omega)))).snoc ?_
            have hp := Pc1.long (g := gF t 52) (q := ℓ 0) (len := ℓ 1) (hu2.same (fun i hi => by rw [show i = 0 by omega]; exact o1)) (hw2.same (fun i hi => by rw [show i = 0 by omega]; exact o2)) (by rw [o1, hu4]; exact c3) (by rw [o1, hu4]; omega) (by rw [o2, hw4])
            exact hp
          · rw [if_neg q]
            have m1 : ℓ 0 + S 0 + 2 ≤ S 1 ∧ (S 1 : Int) ≤ (gF st 48 1).toInt := (hG 0 (by omega)).2.2 (by omega)
            obtain ⟨-, -, -, -, m4, m5, -⟩ := hL 1 (by omega)
            have m3 : ℓ 0 ≤ 120 := by omega
            exact hQ.same (fun i _ hi => hT2.2.2.2 i (Or.inl (by omega)))
        · rw [k48, t_nat]
          rw [t_nat] at hz
          omega
    · -- a piece
      have ce : ¬ gF st 48 D = gF st 49 D := ce
      have hlt : (gF st 48 D).toInt < (gF st 49 D).toInt := by rw [t_eq] at ce; omega
      have n48 : ((gF st 48 D).toNatClampNeg : Int) = (gF st 48 D).toInt := by rw [t_nat]; omega
      have n49 : ((gF st 49 D).toNatClampNeg : Int) = (gF st 49 D).toInt := by rw [t_nat]; omega
      refine ⟨by omega, by omega, Ok.callv (r_piece a4 a5 (by omega) a1 (by omega)) (fun u hu => ?_)⟩
      obtain ⟨k1, k2, hP, b1, b2, b3, b4, b5⟩ := a7.inv (by omega)
      obtain ⟨hFu, hu⟩ := hu
      rw [e30] at hu
      rcases hu with ⟨j1, j2, hP', hV, -⟩ | ⟨-, hu⟩
      case inr => exact absurd hP (hu k1 k2)
      obtain ⟨rfl, rfl⟩ := hP.uniq hP'
      obtain ⟨v33, v34, v35, v37, v36⟩ := hV
      have pr := pnum_r (vacc (gF st0 30) (gF st 48 D).toNatClampNeg j1)
      have tr := pto_r (vacc (gF st0 30) (gF st 48 D).toNatClampNeg j1) (vacc (gF st0 30) ((gF st 48 D).toNatClampNeg + j1) j2) ((gF st 48 D).toNatClampNeg + j1 + j2) (gF st 49 D).toNatClampNeg hP.2.2
      have hrow := Pc1.of hP b2
      have hk1 := hP.1.1
      have hk2 := hP.2.1.1
      have pn1 : 1 ≤ (pnum (vacc (gF st0 30) (gF st 48 D).toNatClampNeg j1)).toInt := by
        rcases Int.lt_or_le (pnum (vacc (gF st0 30) (gF st 48 D).toNatClampNeg j1)).toInt 1 with h | h
        · exact absurd (t_eq.mpr (show _ = (0 : Int32).toInt by show _ = (0 : Int); omega)) b1
        · exact h
      generalize ev1 : vacc (gF st0 30) (gF st 48 D).toNatClampNeg j1 = v1 at *
      generalize ev2 : vacc (gF st0 30) ((gF st 48 D).toNatClampNeg + j1) j2 = v2 at *
      generalize eto : pto v1 v2 ((gF st 48 D).toNatClampNeg + j1 + j2) (gF st 49 D).toNatClampNeg = to at *
      have hFu2 : Fr wrI wrF st0 u := hF.tr (hFu.d (by decide) (by decide))
      rw [Ok_gd, Ok_nam]
      refine ⟨by omega, ?_⟩
      obtain ⟨w, ew⟩ : ∃ w, w = sF u 48 (upd (gF u 48) D (gI u 36)) := ⟨_, rfl⟩
      rw [← ew]
      have hFw : Fr wrI wrF st0 w := by rw [ew]; exact hFu2.sF (by decide)
      have u48 : gF u 48 = gF st 48 := (hFu.2 48 (by decide)).1
      have w47 : gF w 47 = gF st 47 := by rw [ew]; exact (hFu.2 47 (by decide)).1
      have w48 : gF w 48 = upd (gF st 48) D (gI u 36) := by rw [ew, ← u48]; rfl
      have w49 : gF w 49 = gF st 49 := by rw [ew]; exact (hFu.2 49 (by decide)).1
      have w52 : gF w 52 = gF st 52 := by rw [ew]; exact (hFu.2 52 (by decide)).1
      have w53 : gF w 53 = gF st 53 := by rw [ew]; exact (hFu.2 53 (by decide)).1
      have w54 : gF w 54 = gF st 54 := by rw [ew]; exact (hFu.2 54 (by decide)).1
      have w30 : gF w 30 = gF st0 30 := (hFw.2 30 (by decide)).1
      have w1 : gF w 1 = gF st0 1 := (hFw.2 1 (by decide)).1
      have w3 : gF w 3 = gF st0 3 := (hFw.2 3 (by decide)).1
      have w8 : gF w 8 = gF st0 8 := (hFw.2 8 (by decide)).1
      have w33 : gI w 33 = pnum v1 := by rw [ew]; exact v33
      have w35 : (gI w 35).toInt = ((gF st 48 D).toNatClampNeg + j1 + j2 : Nat) := by rw [ew]; exact v35
      have w36 : (gI w 36).toInt = to := by rw [ew]; exact v36
      have w37 : gJ w 37 = punf v2 := by rw [ew]; exact v37
      have x48 : gF w 48 D = gI u 36 := by rw [w48, upd_eq rfl]
      have y48 : ∀ d, d ≠ D → gF w 48 d = gF st 48 d := fun d hd => by rw [w48, upd_ne hd]
      have hLw : LyN w D (ℓ D) := by unfold LyN; rw [w53]; exact g1
      have to36 : (gI u 36).toNatClampNeg = to.toNat := by rw [t_nat, v36]
      -- bytes were laid: the same level goes on
      have cont : ∀ (k : Nat) (t : RS), LaP w D (ℓ D) k t → (k : Int) + (gF st 48 D).toInt ≤ to → (D = 0 → Pc1 (gF t 52) (ℓ 0) (ℓ 0 + k)) → Ok (x9_writes_20 z l 1 t) (WrP st0 n) := by
        intro k t ht hk hpc
        have k48 : gF t 48 = gF w 48 := (ht.1.2 48 (by decide)).1
        have k47 : gF t 47 = gF st 47 := ((ht.1.2 47 (by decide)).1).trans w47
        have k49 : gF t 49 = gF st 49 := ((ht.1.2 49 (by decide)).1).trans w49
        have k54 : gF t 54 = gF st 54 := ((ht.1.2 54 (by decide)).1).trans w54
        refine ih D S (fun d => if d = D then ℓ D + k else ℓ d) l t hl hD ⟨hFw.tr (ht.1.d (by decide) (by decide)), fun d hd => ?_, fun d hd => ?_, hS0, fun d hd => ?_, fun d hd1 hd2 => ?_, ?_⟩ ?_
        · rw [k47, k48, k49]
          by_cases q : d = D
          · subst q
            rw [x48, to36]
            exact ⟨a1, a2, a3, by omega, by omega, a6, b4⟩
          · rw [y48 d q]
            exact hL d hd
        · rw [k48, k49, y48 d (by omega)]
          exact hC d hd
        · show LyN t d (if d = D then ℓ D + k else ℓ d) ∧ (d + 1 = D + 1 → (((if d = D then ℓ D + k else ℓ d : Nat) + S d : Int)) ≤ _) ∧ (d + 1 < D + 1 → (if d = D then ℓ D + k else ℓ d) + S d + 2 ≤ S (d + 1) ∧ _)
          by_cases q : d = D
          · subst q
            rw [if_pos rfl, k48, x48]
            exact ⟨ht.2.1, fun _ => by omega, fun h => absurd h (by omega)⟩
          · rw [if_neg q, k48]
            obtain ⟨q1, q2, q3⟩ := hG d hd
            refine ⟨?_, fun h => absurd h (by omega), fun h => ⟨(q3 h).1, ?_⟩⟩
            · unfold LyN
              rw [ht.2.2.1 d q, w53]
              exact q1
            · have q4 := (q3 h).2
              by_cases q5 : d + 1 = D
              · rw [q5] at q4 ⊢
                rw [x48]
                omega
              · rw [y48 _ q5]
                exact q4
        · rw [k54]; exact hK d hd1 hd2
        · show Pcs (gF t 52) 0 (if 0 = D then ℓ D + k else ℓ 0)
          by_cases q : 0 = D
          · rw [if_pos q]
            subst q
            refine (hQ.same (fun i _ hi => ?_)).snoc (hpc rfl)
            rw [ht.2.2.2 i (Or.inl (by omega)), w52]
          · rw [if_neg q]
            have m1 : ℓ 0 + S 0 + 2 ≤ S 1 ∧ (S 1 : Int) ≤ (gF st 48 1).toInt := (hG 0 (by omega)).2.2 (by omega)
            obtain ⟨-, -, -, -, m4, m5, -⟩ := hL 1 (by omega)
            have m3 : ℓ 0 ≤ 120 := by omega
            refine hQ.same (fun i _ hi => ?_)
            rw [ht.2.2.2 i (Or.inl (by omega)), w52]
        · rw [k48, x48, to36]
          omega
      have e31 := i31 (n := gI w 33) a1 (by omega : (gF st 47 D).toInt < 8) (by rw [w33]; exact pr.1) (by rw [w33]; exact pr.2)
      have e31n := i31n (n := gI w 33) a1 (by omega : (gF st 47 D).toInt < 8) (by rw [w33]; exact pr.1) (by rw [w33]; exact pr.2)
      rw [Ok_nam]
      refine Ok.bp (c := hasN st0 (gF st 47 D).toNatClampNeg (pnum v1).toNatClampNeg) (st := w) (by
        have h := r_has (m := gF st 47 D) (n := gI w 33) (st := w) a1 (by omega)
        rw [w33] at h ⊢
        have eH : hasN w (gF st 47 D).toNatClampNeg (pnum v1).toNatClampNeg = hasN st0 (gF st 47 D).toNatClampNeg (pnum v1).toNatClampNeg := by unfold hasN; rw [w1, w8]
        rw [eH] at h
        exact h) (fun hy => ?_) (fun hno => ?_)
      · rw [w33] at e31 e31n
        simp only [Ok_pif, Ok_gd, Ok_nam, w33, t_in, e31, e31n, w1, w3]
        refine ⟨fun h => absurd h (by decide), fun _ => ⟨by omega, fun k6 => ?_, fun k6 => ⟨by omega, fun k5 => ?_, fun k5 => ?_⟩⟩⟩
        · -- a rec: one level down
          obtain ⟨i1, i2, i3⟩ := (hM (gF st 47 D).toNatClampNeg (pnum v1).toNatClampNeg (by rw [t_nat]; omega) a3 hy).2.1 k6
          have n47 : ((gF st 47 D).toNatClampNeg : Int) = (gF st 47 D).toInt := by rw [t_nat]; omega
          have el : (l + 1).toInt = D + 1 := by rw [t_add (by show -2147483648 ≤ l.toInt + 1; omega) (by show l.toInt + 1 < 2147483648; omega)]; show l.toInt + 1 = _; omega
          generalize l + 1 = l' at el ⊢
          have lD1 : l'.toNatClampNeg = D + 1 := by rw [t_nat]; omega
          refine ⟨by omega, Ok.callv (r_opens (by omega) (by omega)) (fun y hy2 => ?_)⟩
          rw [lD1] at hy2
          simp only [Ok_gd, Ok_nam, t_in, lD1]
          refine ⟨by omega, by omega, ?_⟩
          obtain ⟨x, ex⟩ : ∃ x, x = sF (sF y 53 (upd (gF y 53) (D + 1) 0)) 54 (upd (gF (sF y 53 (upd (gF y 53) (D + 1) 0)) 54) (D + 1) (2 * gI (sF y 53 (upd (gF y 53) (D + 1) 0)) 33 + 1)) := ⟨_, rfl⟩
          rw [← ex]
          have x47 : gF x 47 = upd (gF st 47) (D + 1) (gF st0 3 (31 * (gF st 47 D).toNatClampNeg + (pnum v1).toNatClampNeg)) := by rw [ex, hy2]; show upd (gF w 47) (D + 1) _ = _; rw [w47]
          have x48' : gF x 48 = upd (gF w 48) (D + 1) (gI w 35) := by rw [ex, hy2]; rfl
          have x49 : gF x 49 = upd (gF st 49) (D + 1) (gI w 36) := by rw [ex, hy2]; show upd (gF w 49) (D + 1) _ = _; rw [w49]
          have x52 : gF x 52 = gF st 52 := by rw [ex, hy2]; exact w52
          have x53 : gF x 53 = upd (gF st 53) (D + 1) 0 := by rw [ex, hy2]; show upd (gF w 53) (D + 1) 0 = _; rw [w53]
          have x54 : gF x 54 = upd (gF st 54) (D + 1) (2 * pnum v1 + 1) := by rw [ex, hy2]; show upd (gF w 54) (D + 1) (2 * gI w 33 + 1) = _; rw [w54, w33]
          have hFx : Fr wrI wrF st0 x := by rw [ex, hy2]; exact ((((((hFw.sF (by decide)).sF (by decide)).sF (by decide)).sF (by decide)).sF (by decide)).sF (by decide)).sF (by decide)
          have ek : (2 * pnum v1 + 1).toInt = 2 * (pnum v1).toInt + 1 := by
            have em : (2 * pnum v1).toInt = 2 * (pnum v1).toInt := by
              rw [t_mul (by show -2147483648 ≤ 2 * (pnum v1).toInt; omega) (by show 2 * (pnum v1).toInt < 2147483648; omega)]
              rfl
            rw [t_add (by rw [em]; show -2147483648 ≤ 2 * (pnum v1).toInt + 1; omega) (by rw [em]; show 2 * (pnum v1).toInt + 1 < 2147483648; omega), em]
            rfl
          have z47 : gF x 47 (D + 1) = gF st0 3 (31 * (gF st 47 D).toNatClampNeg + (pnum v1).toNatClampNeg) := by rw [x47, upd_eq rfl]
          have z48 : gF x 48 (D + 1) = gI w 35 := by rw [x48', upd_eq rfl]
          have z49 : gF x 49 (D + 1) = gI w 36 := by rw [x49, upd_eq rfl]
          have k47 : ∀ d, d ≠ D + 1 → gF x 47 d = gF st 47 d := fun d hd => by rw [x47, upd_ne hd]
          have k48 : ∀ d, d ≠ D + 1 → gF x 48 d = gF w 48 d := fun d hd => by rw [x48', upd_ne hd]
          have k49 : ∀ d, d ≠ D + 1 → gF x 49 d = gF st 49 d := fun d hd => by rw [x49, upd_ne hd]
          have k53 : ∀ d, d ≠ D + 1 → gF x 53 d = gF st 53 d := fun d hd => by rw [x53, upd_ne hd]
          have n35 : (gI w 35).toNatClampNeg = (gF st 48 D).toNatClampNeg + j1 + j2 := by rw [t_nat, w35]; omega
          have n36 : (gI w 36).toNatClampNeg = to.toNat := by rw [t_nat, w36]
          have w36u : gI w 36 = gI u 36 := by rw [ew]; rfl
          refine ih (D + 1) (fun d => if d = D + 1 then (gF st 48 D).toNatClampNeg + j1 + j2 else S d) (fun d => if d = D + 1 then 0 else ℓ d) l' x (by omega) (by omega) ⟨hFx, fun d hd => ?_, fun d hd => ?_, ?_, fun d hd => ?_, fun d hd1 hd2 => ?_, ?_⟩ ?_
          · by_cases q : d = D + 1
            · subst q
              rw [z47, z48, z49, n35, n36]
              exact ⟨i1, by omega, i3, by omega, by omega, by omega, b5 hy k6⟩
            · rw [k47 d q, k48 d q, k49 d q]
              by_cases q2 : d = D
              · subst q2
                rw [x48, to36]
                exact ⟨a1, a2, a3, by omega, by omega, a6, b4⟩
              · rw [y48 d q2]
                exact hL d (by omega)
          · by_cases q2 : d = D
            · subst q2
              rw [k48 d (by omega), x48, z49, w36u]
            · rw [k48 d (by omega), y48 d q2, k49 (d + 1) (by omega)]
              exact hC d (by omega)
          · show (if 0 = D + 1 then _ else S 0) = 0
            rw [if_neg (by omega)]
            exact hS0
          · show LyN x d (if d = D + 1 then 0 else ℓ d) ∧ (d + 1 = D + 1 + 1 → ((((if d = D + 1 then 0 else ℓ d) : Nat) : Int) + (((if d = D + 1 then (gF st 48 D).toNatClampNeg + j1 + j2 else S d) : Nat) : Int)) ≤ _) ∧ (d + 1 < D + 1 + 1 → (if d = D + 1 then 0 else ℓ d) + (if d = D + 1 then (gF st 48 D).toNatClampNeg + j1 + j2 else S d) + 2 ≤ (if d + 1 = D + 1 then (gF st 48 D).toNatClampNeg + j1 + j2 else S (d + 1)) ∧ ((((if d + 1 = D + 1 then (gF st 48 D).toNatClampNeg + j1 + j2 else S (d + 1)) : Nat) : Int)) ≤ _)
            by_cases q : d = D + 1
            · subst q
              rw [if_pos rfl, if_pos rfl, z48]
              refine ⟨?_, fun _ => by omega, fun h => absurd h (by omega)⟩
              unfold LyN
              rw [x53, upd_eq rfl]
              rfl
            · rw [if_neg q, if_neg q]
              obtain ⟨q1, q2, q3⟩ := hG d (by omega)
              refine ⟨by unfold LyN; rw [k53 d q]; exact q1, fun h => absurd h (by omega), fun h => ?_⟩
              by_cases q5 : d = D
              · subst q5
                rw [if_pos rfl, z48]
                exact ⟨by omega, by omega⟩
              · rw [if_neg (by omega), k48 _ (by omega)]
                refine ⟨(q3 (by omega)).1, ?_⟩
                have q4 := (q3 (by omega)).2
                by_cases q6 : d + 1 = D
                · rw [q6] at q4 ⊢
                  rw [x48]
                  omega
                · rw [y48 _ q6]
                  exact q4
          · rw [x54]
            by_cases q : d = D + 1
            · subst q
              rw [upd_eq rfl, ek]
              omega
            · rw [upd_ne q]
              exact hK d hd1 (by omega)
          · show Pcs (gF x 52) 0 (if 0 = D + 1 then 0 else ℓ 0)
            rw [if_neg (by omega), x52]
            exact hQ
          · rw [z48, n35]
            omega
        · -- a text
          have hlong : plg v1 := (b3 hy).mpr (by rw [k5]; decide)
          have em : (2 * pnum v1).toInt = 2 * (pnum v1).toInt := by
            rw [t_mul (by show -2147483648 ≤ 2 * (pnum v1).toInt; omega) (by show 2 * (pnum v1).toInt < 2147483648; omega)]
            rfl
          have ek : (2 * pnum v1 + 1).toInt = 2 * (pnum v1).toInt + 1 := by
            rw [t_add (by rw [em]; show -2147483648 ≤ 2 * (pnum v1).toInt + 1; omega) (by rw [em]; show 2 * (pnum v1).toInt + 1 < 2147483648; omega), em]
            rfl
          generalize 2 * pnum v1 + 1 = key at ek ⊢
          refine Ok.callv (r_laysVarint (n := ℓ D) (by omega) (by omega) (by rw [lD]; exact hLw) (by rw [lD]; omega)) (fun y hy2 => ?_)
          rw [lD] at hy2
          obtain ⟨q1, y1, y2, y3, y4⟩ := hy2
          obtain rfl := one_byte (by omega) (by omega) y3 y2.1
          have y4 := y4 rfl
          rw [uN_of32 (by omega)] at y4
          have y36 : gI y 36 = gI w 36 := (y1.1.1 36 (by decide)).1
          have y35 : gI y 35 = gI w 35 := (y1.1.1 35 (by decide)).1
          have y30 : gF y 30 = gF st0 30 := ((y1.1.2 30 (by decide)).1).trans w30
          have es : (gI y 36 - gI y 35).toInt = to - ((gF st 48 D).toNatClampNeg + j1 + j2 : Nat) := by rw [y36, y35, t_sub (by omega) (by omega), w36, w35]
          generalize gI y 36 - gI y 35 = tl at es ⊢
          refine Ok.callv (r_laysVarint (n := ℓ D + 1) (by omega) (by omega) (by rw [lD]; exact y1.2.1) (by rw [lD]; omega)) (fun x hx => ?_)
          rw [lD] at hx
          obtain ⟨q2, x1, x2, x3, x4⟩ := hx
          obtain rfl := one_byte (by omega) (by omega) x3 x2.1
          have x4 := x4 rfl
          rw [uN_of32 (by omega)] at x4
          have x36 : (gI x 36).toInt = to := by rw [(x1.1.1 36 (by decide)).1, y36]; exact w36
          have x35 : (gI x 35).toInt = ((gF st 48 D).toNatClampNeg + j1 + j2 : Nat) := by rw [(x1.1.1 35 (by decide)).1, y35]; exact w35
          have x30 : gF x 30 = gF st0 30 := ((x1.1.2 30 (by decide)).1).trans y30
          rw [Ok_nam, w337_202]
          refine r_w202 (WrP st0 n) (x9_writes_20 z) l 1 x (ℓ D + 2) ((gF st 48 D).toNatClampNeg + j1 + j2) to.toNat (by omega) (by omega) (by omega) (by omega) (by omega) (by rw [lD]; omega) (fun t ht hcp => ?_) fuel 0 (gI x 35) x (by rw [x35]; rfl) (by omega) (by unfold fuel; omega) (LaP.rf (by rw [lD]; exact x1.2.1)) (fun j hj => absurd hj (by omega))
          rw [lD] at ht hcp
          have hT := (y1.tr x1).tr ht
          refine cont _ t hT (by omega) (fun hD0 => ?_)
          subst hD0
          have o1 : gF t 52 (ℓ 0) = gF y 52 (160 * 0 + ℓ 0) := by
            rw [show 160 * 0 + ℓ 0 = ℓ 0 by omega, ht.2.2.2 _ (Or.inl (by omega)), x1.2.2.2 _ (Or.inl (by omega))]
          have o2 : gF t 52 (ℓ 0 + 1) = gF x 52 (160 * 0 + (ℓ 0 + 1)) := by
            rw [show 160 * 0 + (ℓ 0 + 1) = ℓ 0 + 1 by omega, ht.2.2.2 _ (Or.inl (by omega))]
          have hp := Pc1.long (g := gF t 52) (q := ℓ 0) (len := to.toNat - ((gF st 48 0).toNatClampNeg + j1 + j2)) (y2.same (fun i hi => by rw [show i = 0 by omega]; exact o1)) (x2.same (fun i hi => by rw [show i = 0 by omega]; exact o2)) (by rw [o1, y4]; omega) (by rw [o1, y4]; omega) (by rw [o2, x4]; omega)
          rw [show ℓ 0 + 2 + (to.toNat - ((gF st 48 0).toNatClampNeg + j1 + j2)) = ℓ 0 + (1 + 1 + (to.toNat - ((gF st 48 0).toNatClampNeg + j1 + j2))) by omega] at hp
          exact hp
        · -- a number
          have hkind := (hM (gF st 47 D).toNatClampNeg (pnum v1).toNatClampNeg (by rw [t_nat]; omega) a3 hy).1
          have hnl : ¬ plg v1 := fun h => by
            have h4 := (b3 hy).mp h
            have k5' : ¬ (gF st0 1 (31 * (gF st 47 D).toNatClampNeg + (pnum v1).toNatClampNeg)).toInt = 5 := fun h => k5 (t_eq.mpr h)
            have k6' : ¬ (gF st0 1 (31 * (gF st 47 D).toNatClampNeg + (pnum v1).toNatClampNeg)).toInt = 6 := fun h => k6 (t_eq.mpr h)
            omega
          have eto2 : to = ((gF st 48 D).toNatClampNeg + j1 + j2 : Nat) := by
            rw [← eto]
            unfold pto
            rw [pif_neg (fun h => hnl h.1)]
          have em : (2 * pnum v1).toInt = 2 * (pnum v1).toInt := by
            rw [t_mul (by show -2147483648 ≤ 2 * (pnum v1).toInt; omega) (by show 2 * (pnum v1).toInt < 2147483648; omega)]
            rfl
          generalize 2 * pnum v1 = key at em ⊢
          refine Ok.callv (r_laysVarint (n := ℓ D) (by omega) (by omega) (by rw [lD]; exact hLw) (by rw [lD]; omega)) (fun y hy2 => ?_)
          rw [lD] at hy2
          obtain ⟨q1, y1, y2, y3, y4⟩ := hy2
          obtain rfl := one_byte (by omega) (by omega) y3 y2.1
          have y4 := y4 rfl
          rw [uN_of32 (by omega)] at y4
          have y37 : gJ y 37 = punf v2 := ((y1.1.1 37 (by decide)).2).trans w37
          unfold x9_folded
          simp only [Ok_bnd, Ok_some]
          have ef : (gJ y 37 <<< ((1 : Int32).toInt64 &&& 63)) ^^^ (gJ y 37 >>> ((63 : Int32).toInt64 &&& 63)) = v2 := by
            rw [y37]
            exact fold_punf v2
          rw [ef]
          refine Ok.callv (r_laysVarint (n := ℓ D + 1) (by omega) (by omega) (by rw [lD]; exact y1.2.1) (by rw [lD]; omega)) (fun x hx => ?_)
          rw [lD] at hx
          obtain ⟨q2, x1, x2, x3, x4⟩ := hx
          have hq2 : q2 ≤ j2 := by
            have h10 := hP.2.1.2.1
            rcases Nat.lt_or_ge j2 10 with h | h
            · refine x3 j2 hk2 ?_
              rw [← ev2]
              exact vacc_lt _ _ j2 (by omega)
            · have := x2.2.1
              omega
          refine cont _ x (y1.tr x1) (by omega) (fun hD0 => ?_)
          subst hD0
          have o1 : gF x 52 (ℓ 0) = gF y 52 (160 * 0 + ℓ 0) := by
            rw [show 160 * 0 + ℓ 0 = ℓ 0 by omega, x1.2.2.2 _ (Or.inl (by omega))]
          have hp := Pc1.num (g := gF x 52) (q := ℓ 0) (k := q2) (y2.same (fun i hi => by rw [show i = 0 by omega]; exact o1)) (by rw [show 160 * 0 + (ℓ 0 + 1) = ℓ 0 + 1 by omega] at x2; exact x2) (by rw [o1, y4]; omega) (by rw [o1, y4]; omega)
          rw [Nat.add_assoc] at hp
          exact hp
      · simp only [Ok_pif]
        refine ⟨fun _ => ?_, fun h => absurd trivial h⟩
        refine r_w202 (WrP st0 n) (x9_writes_20 z) l 1 w (ℓ D) (gF st 48 D).toNatClampNeg to.toNat (by omega) (by omega) (by omega) (by omega) (by omega) (by rw [lD]; omega) (fun t ht hcp => ?_) fuel 0 (gF st 48 D) w (by omega) (by omega) (by unfold fuel; omega) (LaP.rf (by rw [lD]; exact hLw)) (fun j hj => absurd hj (by omega))
        rw [lD] at ht hcp
        rw [w30] at hcp
        refine cont _ t ht (by omega) (fun hD0 => ?_)
        subst hD0
        refine hrow.shift (fun i hi => ?_)
        have := hcp i hi
        rw [show 160 * 0 + ℓ 0 + i = ℓ 0 + i by omega] at this
        exact this
theorem r_writes {n0 m0 : Int32} {st : RS} (h1 : 0 ≤ n0.toInt) (h2 : n0.toInt ≤ 120) (hm : mkN st m0) (hM : MkI st) (hS : Snd st (gF st 30) m0.toNatClampNeg 0 n0.toNatClampNeg) : Ok (x9_writes n0 m0 st) (WrP st n0.toNatClampNeg) := by
  unfold x9_writes
  obtain ⟨hm1, hm2, hm3⟩ := hm
  refine Ok.callv (r_opens (by decide) (by decide)) (fun t ht => ?_)
  simp only [Ok_gd, Ok_nam, t_in]
  have n0n : (n0.toNatClampNeg : Int) = n0.toInt := by rw [t_nat]; omega
  have z0 : (0 : Int32).toInt = 0 := rfl
  refine ⟨by rw [z0]; omega, ?_⟩
  obtain ⟨x, ex⟩ : ∃ x, x = sF t 53 (upd (gF t 53) (0 : Int32).toNatClampNeg 0) := ⟨_, rfl⟩
  rw [← ex]
  have a47 : gF x 47 0 = m0 := by rw [ex, ht]; rfl
  have a48 : gF x 48 0 = 0 := by rw [ex, ht]; rfl
  have a49 : gF x 49 0 = n0 := by rw [ex, ht]; rfl
  have a53 : gF x 53 0 = 0 := by rw [ex]; rfl
  refine r_writes20 st _ (by omega) hM fuel 0 (fun _ => 0) (fun _ => 0) 0 x rfl (by omega) ⟨?_, fun d hd => ?_, fun d hd => absurd hd (by omega), rfl, fun d hd => ?_, fun d h1 h2 => absurd h2 (by omega), Pcs.nil⟩ ?_
  · rw [ex, ht]
    exact (((((Fr.rf.sF (by decide)).sF (by decide)).sF (by decide)).sF (by decide)).sF (by decide)).sF (by decide)
  · obtain rfl : d = 0 := by omega
    rw [a47, a48, a49]
    exact ⟨hm1, by omega, hm3, by omega, by omega, by omega, hS⟩
  · obtain rfl : d = 0 := by omega
    exact ⟨a53, fun _ => by rw [a48]; show (0 : Int) ≤ _; decide, fun h => absurd h (by omega)⟩
  · rw [a48]
    unfold fuel
    omega
