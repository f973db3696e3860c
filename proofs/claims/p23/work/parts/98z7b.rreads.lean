/-! the reference's reads(), exactly -/
def LvS (st0 st : RS) (d : Nat) : Prop := Sd st0 (gF st0 30) (gF st 47 d).toNatClampNeg (gF st 48 d).toNatClampNeg (gF st 49 d).toNatClampNeg (gF st 50 d).toNatClampNeg (gF st 51 d)
theorem all_succ {P : Nat → Prop} {D : Nat} : (∀ d, d < D + 1 → P d) ↔ (∀ d, d < D → P d) ∧ P D := ⟨fun h => ⟨fun d hd => h d (by omega), h D (by omega)⟩, fun h d hd => by
  by_cases e : d = D
  · rw [e]; exact h.2
  · exact h.1 d (by omega)⟩
theorem all_c {P Q : Nat → Prop} {D : Nat} (h : ∀ d, d < D → (P d ↔ Q d)) : (∀ d, d < D → P d) ↔ (∀ d, d < D → Q d) := ⟨fun q d hd => (h d hd).mp (q d hd), fun q d hd => (h d hd).mpr (q d hd)⟩
/-- where level 0 stands -/
noncomputable def tpA (st : RS) (n D : Nat) : Nat := pif (D = 0) n (gF st 48 0).toNatClampNeg
def rdIl : List Nat := [31, 32, 33, 34, 35, 36, 37, 38, 39, 40, 41]
def rdFl : List Nat := [42, 43, 44, 45, 46, 47, 48, 49, 50, 51]
/-- what stands while reads() goes down and up: D levels are open -/
def RdJ (st0 : RS) (n m D : Nat) (st : RS) : Prop :=
  Fr [31, 32, 33, 34, 35, 36, 37, 38, 39, 40, 41] [42, 43, 44, 45, 46, 47, 48, 49, 50, 51] st0 st ∧
  (∀ d, d < D → 0 ≤ (gF st 47 d).toInt ∧ (gF st 47 d).toInt + d ≤ 7 ∧ gF st0 0 (gF st 47 d).toNatClampNeg ≠ 0 ∧ 0 ≤ (gF st 48 d).toInt ∧ (gF st 48 d).toInt ≤ (gF st 49 d).toInt ∧ (gF st 49 d).toInt ≤ n ∧ 0 ≤ (gF st 50 d).toInt ∧ (gF st 50 d).toInt ≤ 30) ∧
  (∀ d, d + 1 < D → (gF st 48 d).toInt = (gF st 49 (d + 1)).toInt) ∧
  (0 ≤ (gI st 41).toInt ∧ (gI st 41).toInt ≤ 30 ∧ (0 < D → (gI st 41).toInt ≤ (gF st 50 0).toInt)) ∧
  ((0 < D → (gF st 49 0).toInt = n) ∧ TbR (gF st0 30) n (gI st 41).toNatClampNeg (tpA st n D) st) ∧
  ((∀ d, d < D → LvS st0 st d) ↔ Sd st0 (gF st0 30) m 0 n 0 0)
/-- what reads() answers -/
def RdQ (st0 : RS) (n m : Nat) (q : Int32 × RS) : Prop :=
  Fr [31, 32, 33, 34, 35, 36, 37, 38, 39, 40, 41] [42, 43, 44, 45, 46, 47, 48, 49, 50, 51] st0 q.2 ∧ ((q.1 = 0 ∧ ¬ Sd st0 (gF st0 30) m 0 n 0 0) ∨ q.1 = 1 ∧ Sd st0 (gF st0 30) m 0 n 0 0 ∧ 0 ≤ (gI q.2 41).toInt ∧ (gI q.2 41).toInt ≤ 30 ∧ TbR (gF st0 30) n (gI q.2 41).toNatClampNeg n q.2)
set_option maxHeartbeats 4000000 in
theorem r_rd25 (st0 : RS) (n m : Nat) (hn : n ≤ 160) (hM : MkI st0) : ∀ (z D : Nat) (l : Int32) (st : RS), l.toInt + 1 = D → D ≤ 8 → RdJ st0 n m D st → (D = 0 → 0 < z) → (0 < D → n - (gF st 48 (D - 1)).toNatClampNeg + D < z) → Ok (x9_reads_25 z l st) (RdQ st0 n m) := by
  intro z
  induction z with
  | zero =>
    intro D l st h1 h2 hI h3 h4
    exfalso
    rcases Nat.eq_zero_or_pos D with h | h
    · exact absurd (h3 h) (by decide)
    · exact absurd (h4 h) (by omega)
  | succ z ih =>
    intro D l st hl hD8 hI hz0 hz
    rw [x9_reads_25_s]
    simp only [Ok_pif, Ok_some]
    rw [t_lt, show (0 : Int32).toInt = 0 from rfl]
    refine ⟨fun c => ?_, fun c => ?_⟩
    · have : D = 0 := by omega
      subst this
      have hT := hI.2.2.2.2.1.2
      unfold tpA at hT
      rw [pif_pos rfl] at hT
      exact ⟨hI.1, Or.inr ⟨rfl, hI.2.2.2.2.2.mp (fun d hd => absurd hd (by omega)), hI.2.2.2.1.1, hI.2.2.2.1.2.1, hT⟩⟩
    · obtain ⟨D, rfl⟩ : ∃ D', D = D' + 1 := ⟨D - 1, by omega⟩
      have lD : l.toNatClampNeg = D := by rw [t_nat]; omega
      have hzz := hz (by omega)
      rw [Nat.add_sub_cancel] at hzz
      obtain ⟨hF, hL, hC, hP, ⟨h49, hQ⟩, hS⟩ := id hI
      have h49 := h49 (by omega)
      obtain ⟨a1, a2, a3, a4, a5, a6, a7, a8⟩ := hL D (by omega)
      simp only [Ok_gd, Ok_nam, Ok_pif, t_in, lD]
      refine ⟨by omega, by omega, fun ce => ?_, fun ce => ?_⟩
      · have e1 : (l + (-1)).toInt = l.toInt - 1 := by rw [t_add (by show -2147483648 ≤ l.toInt + (-1); omega) (by show l.toInt + (-1) < 2147483648; omega)]; rfl
        generalize l + (-1) = l' at e1 ⊢
        refine ih D l' st (by omega) (by omega) ⟨hF, fun d hd => hL d (by omega), fun d hd => hC d (by omega), ⟨hP.1, hP.2.1, fun h => hP.2.2 (by omega)⟩, ⟨fun _ => h49, ?_⟩, ?_⟩ (fun h => by omega) (fun h => ?_)
        · unfold tpA at hQ ⊢
          rw [pif_neg (by omega)] at hQ
          by_cases e0 : D = 0
          · rw [pif_pos e0]
            subst e0
            rw [ce, show (gF st 49 0).toNatClampNeg = n by rw [t_nat]; omega] at hQ
            exact hQ
          · rw [pif_neg e0]; exact hQ
        · rw [← hS, all_succ]
          have : LvS st0 st D := by
            unfold LvS
            rw [ce]
            exact Sd.nil
          exact ⟨fun q => ⟨q, this⟩, fun q => q.1⟩
        · have h3 := hC (D - 1) (by omega)
          rw [show D - 1 + 1 = D by omega, ← ce] at h3
          rw [t_nat] at hzz ⊢
          omega
      · have ce : ¬ gF st 48 D = gF st 49 D := ce
        have hlt : (gF st 48 D).toInt < (gF st 49 D).toInt := by rw [t_eq] at ce; omega
        refine ⟨by omega, by omega, by omega, by omega, Ok.callv (r_piece a4 a5 (by omega) a1 (by omega)) (fun u hu => ?_)⟩
        obtain ⟨hFu, hu⟩ := hu
        have hFu2 : Fr [31, 32, 33, 34, 35, 36, 37, 38, 39, 40, 41] [42, 43, 44, 45, 46, 47, 48, 49, 50, 51] st0 u := hF.tr (hFu.d rfl rfl)
        simp only [Ok_pif, Ok_nam, Ok_some]
        have hne : (gF st 48 D).toNatClampNeg ≠ (gF st 49 D).toNatClampNeg := by rw [t_nat, t_nat]; omega
        have bad : (PcA (gF st0 30) (gF st 48 D).toNatClampNeg (gF st 49 D).toNatClampNeg → pOk st0 (gF st0 30) (gF st 47 D).toNatClampNeg (gF st 48 D).toNatClampNeg (gF st 49 D).toNatClampNeg (gF st 50 D).toNatClampNeg (gF st 51 D) → False) → ¬ Sd st0 (gF st0 30) m 0 n 0 0 := fun hb hs => by
          have h1 := hS.mpr hs D (by omega)
          unfold LvS at h1
          rw [Sd.iff hne] at h1
          exact hb h1.1 h1.2.1
        have e30 : gF st 30 = gF st0 30 := (hF.2 30 (by decide)).1
        rcases hu with ⟨k1, k2, hK, hV, hf⟩ | ⟨hu, hno⟩
        case inr => exact ⟨fun c38 => absurd (hu.symm.trans c38) (by decide), fun _ => ⟨(hFu2.sI (by decide)).sI (by decide), Or.inl ⟨rfl, bad (fun h1 _ => by
          rw [e30] at hno
          exact hno _ _ h1)⟩⟩⟩
        have g0 : gF st 0 = gF st0 0 := (hF.2 0 (by decide)).1
        have g1 : gF st 1 = gF st0 1 := (hF.2 1 (by decide)).1
        have g2 : gF st 2 = gF st0 2 := (hF.2 2 (by decide)).1
        have g3 : gF st 3 = gF st0 3 := (hF.2 3 (by decide)).1
        have g8 : gF st 8 = gF st0 8 := (hF.2 8 (by decide)).1
        rw [pfl_st g1 g2 g8 e30] at hf
        rw [e30] at hK hV hf
        obtain ⟨v33, v34, v35, v37, v36⟩ := hV
        have hlg : gI u 34 = 1 ↔ plg (vacc (gF st0 30) (gF st 48 D).toNatClampNeg k1) := by
          rw [v34]
          by_cases q : plg (vacc (gF st0 30) (gF st 48 D).toNatClampNeg k1)
          · rw [pif_pos q]; exact ⟨fun _ => q, fun _ => rfl⟩
          · rw [pif_neg q]; exact ⟨fun h => absurd h (by decide), fun h => absurd h q⟩
        have hok : gI u 38 = 0 ↔ pOk st0 (gF st0 30) (gF st 47 D).toNatClampNeg (gF st 48 D).toNatClampNeg (gF st 49 D).toNatClampNeg (gF st 50 D).toNatClampNeg (gF st 51 D) := by
          rw [hf, v33, v37]
          exact pfl_ok rfl hK Iff.rfl hlg v35 v36 a7
        obtain ⟨w1, w2, hPc⟩ := hK.a
        have eV1 : vacc (gF st0 30) (gF st 48 D).toNatClampNeg k1 = pV1 (gF st0 30) (gF st 48 D).toNatClampNeg := by unfold pV1; rw [w1]
        have eV2 : vacc (gF st0 30) ((gF st 48 D).toNatClampNeg + k1) k2 = pV2 (gF st0 30) (gF st 48 D).toNatClampNeg := by unfold pV2; rw [w1, w2]
        have eFr : (gF st 48 D).toNatClampNeg + k1 + k2 = pFr (gF st0 30) (gF st 48 D).toNatClampNeg := by unfold pFr; rw [w1, w2]
        refine ⟨fun c38 => ?_, fun c38 => ⟨(hFu2.sI (by decide)).sI (by decide), Or.inl ⟨rfl, bad (fun _ h2 => c38 (hok.mpr h2))⟩⟩⟩
        have hOk := hok.mp c38
        obtain ⟨b1, b2, b3, b4⟩ := pfl_0 (hf.symm.trans c38)
        rw [v33] at b1 b3
        have pr := pnum_r (vacc (gF st0 30) (gF st 48 D).toNatClampNeg k1)
        have tr := pto_r (vacc (gF st0 30) (gF st 48 D).toNatClampNeg k1) (vacc (gF st0 30) ((gF st 48 D).toNatClampNeg + k1) k2) ((gF st 48 D).toNatClampNeg + k1 + k2) (gF st 49 D).toNatClampNeg hK.2.2
        have hk1 := hK.1.1
        have hk2 := hK.2.1.1
        have n48 : ((gF st 48 D).toNatClampNeg : Int) = (gF st 48 D).toInt := by rw [t_nat]; omega
        have n49 : ((gF st 49 D).toNatClampNeg : Int) = (gF st 49 D).toInt := by rw [t_nat]; omega
        rw [hlg] at b3
        have b5 : (gI u 33).toInt ≤ 30 := by rw [v33]; exact pr.2
        have b6 : 0 ≤ (gI u 33).toInt := by rw [v33]; exact pr.1
        have hne2 : ∀ {m : Nat} {last : Nat} {gs : Int32}, Sd st0 (gF st0 30) m (gF st 48 D).toNatClampNeg (gF st 49 D).toNatClampNeg last gs ↔ _ := fun {m last gs} => Sd.iff hne
        have n33 : (gI u 33).toNatClampNeg = pNu (gF st0 30) (gF st 48 D).toNatClampNeg := by rw [v33, eV1]; rfl
        -- what stands behind the piece
        have tail : ∀ w : RS, Fr [31, 32, 33, 34, 35, 36, 37, 38, 39, 40, 41] [42, 43, 44, 45, 46, 47, 48, 49, 50, 51] st0 w → gF w 47 = gF st 47 → gF w 48 = gF st 48 → gF w 49 = gF st 49 → gF w 50 = gF st 50 → gF w 51 = gF st 51 → gI w 33 = gI u 33 → gI w 35 = gI u 35 → gI w 36 = gI u 36 → (0 ≤ (gI w 41).toInt ∧ (gI w 41).toInt ≤ 30 ∧ (gI w 41).toInt ≤ (if D = 0 then (gI u 33).toInt else (gF st 50 0).toInt)) → TbR (gF st0 30) n (gI w 41).toNatClampNeg (pif (D = 0) (pTo (gF st0 30) (gF st 48 D).toNatClampNeg (gF st 49 D).toNatClampNeg) (gF st 48 0).toNatClampNeg) w → Ok (x9_reads_188 (x9_reads_25 z) l (gF st 47 D) w) (RdQ st0 n m) := by
          intro w hFw w47 w48 w49 w50 w51 w33 w35 w36 wP wQ
          have w0 : gF w 0 = gF st0 0 := (hFw.2 0 (by decide)).1
          have w1 : gF w 1 = gF st0 1 := (hFw.2 1 (by decide)).1
          have w2 : gF w 2 = gF st0 2 := (hFw.2 2 (by decide)).1
          have w3 : gF w 3 = gF st0 3 := (hFw.2 3 (by decide)).1
          have w8 : gF w 8 = gF st0 8 := (hFw.2 8 (by decide)).1
          unfold x9_reads_188
          simp only [Ok_gd, Ok_nam, t_in]
          refine ⟨by omega, by omega, ?_⟩
          obtain ⟨w', ew⟩ : ∃ w', w' = sF (sF w 48 (upd (gF w 48) l.toNatClampNeg (gI w 36))) 50 (upd (gF (sF w 48 (upd (gF w 48) l.toNatClampNeg (gI w 36))) 50) l.toNatClampNeg (gI (sF w 48 (upd (gF w 48) l.toNatClampNeg (gI w 36))) 33)) := ⟨_, rfl⟩
          rw [← ew]
          have hFw' : Fr [31, 32, 33, 34, 35, 36, 37, 38, 39, 40, 41] [42, 43, 44, 45, 46, 47, 48, 49, 50, 51] st0 w' := by rw [ew]; exact (hFw.sF (by decide)).sF (by decide)
          have x47 : gF w' 47 = gF st 47 := by rw [ew]; exact w47
          have x48 : gF w' 48 = upd (gF st 48) D (gI u 36) := by rw [ew]; show upd (gF w 48) l.toNatClampNeg (gI w 36) = _; rw [w48, w36, lD]
          have x49 : gF w' 49 = gF st 49 := by rw [ew]; exact w49
          have x50 : gF w' 50 = upd (gF st 50) D (gI u 33) := by rw [ew]; show upd (gF w 50) l.toNatClampNeg (gI w 33) = _; rw [w50, w33, lD]
          have x51 : gF w' 51 = gF st 51 := by rw [ew]; exact w51
          have x33 : gI w' 33 = gI u 33 := by rw [ew]; exact w33
          have x35 : gI w' 35 = gI u 35 := by rw [ew]; exact w35
          have x36 : gI w' 36 = gI u 36 := by rw [ew]; exact w36
          have x41 : gI w' 41 = gI w 41 := by rw [ew]; rfl
          have xT : ∀ k, 42 ≤ k → k ≤ 45 → gF w' k = gF w k := fun k k1 k2 => by rw [ew, gF_sF, if_neg (by omega), gF_sF, if_neg (by omega)]
          have y1 : gF w' 1 = gF st0 1 := by rw [ew]; exact w1
          have y2 : gF w' 2 = gF st0 2 := by rw [ew]; exact w2
          have y3 : gF w' 3 = gF st0 3 := by rw [ew]; exact w3
          have y8 : gF w' 8 = gF st0 8 := by rw [ew]; exact w8
          have eH : hasN w' (gF st 47 D).toNatClampNeg (gI u 33).toNatClampNeg = hasN st0 (gF st 47 D).toNatClampNeg (gI u 33).toNatClampNeg := by unfold hasN; rw [y1, y8]
          have t36 : (gI u 36).toNatClampNeg = (pto (vacc (gF st0 30) (gF st 48 D).toNatClampNeg k1) (vacc (gF st0 30) ((gF st 48 D).toNatClampNeg + k1) k2) ((gF st 48 D).toNatClampNeg + k1 + k2) (gF st 49 D).toNatClampNeg).toNat := by rw [t_nat, v36]
          have p36 : (gI u 36).toNatClampNeg = pTo (gF st0 30) (gF st 48 D).toNatClampNeg (gF st 49 D).toNatClampNeg := by rw [t36, eV1, eV2, eFr]; rfl
          have t35 : (gI u 35).toNatClampNeg = (gF st 48 D).toNatClampNeg + k1 + k2 := by rw [t_nat, v35]; omega
          have p35 : (gI u 35).toNatClampNeg = pFr (gF st0 30) (gF st 48 D).toNatClampNeg := by rw [t35, eFr]
          have eH1 : hasN st0 (gF st 47 D).toNatClampNeg (gI u 33).toNatClampNeg = hasN st0 (gF st 47 D).toNatClampNeg (pNu (gF st0 30) (gF st 48 D).toNatClampNeg) := by rw [n33]
          -- no way down: the same level goes on
          have same : ∀ x : RS, Fr [31, 32, 33, 34, 35, 36, 37, 38, 39, 40, 41] [42, 43, 44, 45, 46, 47, 48, 49, 50, 51] st0 x → gF x 47 = gF w' 47 → gF x 48 = gF w' 48 → gF x 49 = gF w' 49 → gF x 50 = gF w' 50 → gF x 51 = upd (gF st 51) D (gsN st0 (gF st 47 D).toNatClampNeg (pNu (gF st0 30) (gF st 48 D).toNatClampNeg) (gF st 51 D)) → gI x 41 = gI w' 41 → (∀ k, 42 ≤ k → k ≤ 45 → gF x k = gF w' k) → ¬ (hasN st0 (gF st 47 D).toNatClampNeg (gI u 33).toNatClampNeg ∧ gF st0 1 (31 * (gF st 47 D).toNatClampNeg + (gI u 33).toNatClampNeg) = 6) → Ok (x9_reads_25 z l x) (RdQ st0 n m) := by
            intro x hFx q47 q48 q49 q50 q51 q41 qT hnr
            have c48 : ∀ d, d ≠ D → gF x 48 d = gF st 48 d := fun d hd => by rw [q48, x48, upd_ne hd]
            have c48' : gF x 48 D = gI u 36 := by rw [q48, x48, upd_eq rfl]
            have c50 : ∀ d, d ≠ D → gF x 50 d = gF st 50 d := fun d hd => by rw [q50, x50, upd_ne hd]
            have c50' : gF x 50 D = gI u 33 := by rw [q50, x50, upd_eq rfl]
            have c47 : gF x 47 = gF st 47 := q47.trans x47
            have c49 : gF x 49 = gF st 49 := q49.trans x49
            refine ih (D + 1) l x hl hD8 ⟨hFx, fun d hd => ?_, fun d hd => ?_, ?_, ⟨fun _ => by rw [c49]; exact h49, ?_⟩, ?_⟩ (fun h => absurd h (by omega)) (fun _ => ?_)
            · rw [c47, c49]
              by_cases e : d = D
              · subst e
                rw [c48', c50']
                exact ⟨a1, a2, a3, by omega, by omega, a6, b6, b5⟩
              · rw [c48 d e, c50 d e]
                exact hL d hd
            · rw [c49, c48 d (by omega)]
              exact hC d hd
            · rw [q41, x41]
              refine ⟨wP.1, wP.2.1, fun _ => ?_⟩
              have h3 := wP.2.2
              by_cases e : D = 0
              · rw [if_pos e] at h3
                subst e
                rw [c50']
                exact h3
              · rw [if_neg e] at h3
                rw [c50 0 (by omega)]
                exact h3
            · rw [q41, x41]
              have hw := wQ.fr (t := x) (fun k k1 k2 => (qT k k1 k2).trans (xT k k1 k2))
              unfold tpA
              rw [pif_neg (by omega)]
              by_cases e : D = 0
              · rw [pif_pos e] at hw
                subst e
                rw [c48', p36]; exact hw
              · rw [pif_neg e] at hw
                rw [c48 0 (by omega)]; exact hw
            · rw [← hS]
              refine all_c (fun d hd => ?_)
              unfold LvS
              rw [c47, c49]
              by_cases e : d = D
              · subst e
                rw [c48', c50', q51, upd_eq rfl, p36, n33, hne2]
                rw [n33] at hnr
                exact ⟨fun q => ⟨hPc, hOk, q, fun q1 q2 => absurd ⟨q1, q2⟩ hnr⟩, fun q => q.2.2.1⟩
              · rw [c48 d e, c50 d e, q51, upd_ne e]
            · rw [Nat.add_sub_cancel, c48']
              rw [t36]
              omega
          refine Ok.bp (c := hasN st0 (gF st 47 D).toNatClampNeg (gI u 33).toNatClampNeg) (st := w') (by rw [x33, ← eH]; exact r_has a1 (by omega)) (fun hy => ?_) (fun hno => ?_)
          · have e31 := i31 a1 (by omega : (gF st 47 D).toInt < 8) b6 b5
            have e31n := i31n a1 (by omega : (gF st 47 D).toInt < 8) b6 b5
            have g264 : ∀ x : RS, Fr [31, 32, 33, 34, 35, 36, 37, 38, 39, 40, 41] [42, 43, 44, 45, 46, 47, 48, 49, 50, 51] st0 x → gF x 47 = gF w' 47 → gF x 48 = gF w' 48 → gF x 49 = gF w' 49 → gF x 50 = gF w' 50 → gF x 51 = upd (gF st 51) D (gsN st0 (gF st 47 D).toNatClampNeg (pNu (gF st0 30) (gF st 48 D).toNatClampNeg) (gF st 51 D)) → gI x 41 = gI w' 41 → (∀ k, 42 ≤ k → k ≤ 45 → gF x k = gF w' k) → gI x 35 = gI w' 35 → gI x 36 = gI w' 36 → Ok (x9_reads_264 (x9_reads_25 z) l (31 * gF st 47 D + gI u 33) x) (RdQ st0 n m) := by
              intro x hFx q47 q48 q49 q50 q51 q41 qT q35 q36
              have x1 : gF x 1 = gF st0 1 := (hFx.2 1 (by decide)).1
              have x3 : gF x 3 = gF st0 3 := (hFx.2 3 (by decide)).1
              unfold x9_reads_264
              simp only [Ok_gd, Ok_pif, Ok_nam, t_in, e31, e31n, x1, x3, q35, q36, x35, x36]
              refine ⟨by omega, fun k6 => ?_, fun k6 => same x hFx q47 q48 q49 q50 q51 q41 qT (fun h => k6 h.2)⟩
              obtain ⟨i1, i2, i3⟩ := (hM (gF st 47 D).toNatClampNeg (gI u 33).toNatClampNeg (by rw [t_nat]; omega) a3 hy).2.1 k6
              have n47 : ((gF st 47 D).toNatClampNeg : Int) = (gF st 47 D).toInt := by rw [t_nat]; omega
              have el : (l + 1).toInt = l.toInt + 1 := by rw [t_add (by show -2147483648 ≤ l.toInt + 1; omega) (by show l.toInt + 1 < 2147483648; omega)]; rfl
              have lD1 : (l + 1).toNatClampNeg = D + 1 := by rw [t_nat]; omega
              refine ⟨by omega, Ok.callv (r_opens (by omega) (by omega)) (fun y hy2 => ?_)⟩
              have y47 : gF y 47 = upd (gF st 47) (D + 1) (gF st0 3 (31 * (gF st 47 D).toNatClampNeg + (gI u 33).toNatClampNeg)) := by rw [hy2]; show upd (gF x 47) (l + 1).toNatClampNeg _ = _; rw [q47, x47, lD1]
              have y48 : gF y 48 = upd (gF w' 48) (D + 1) (gI u 35) := by rw [hy2]; show upd (gF x 48) (l + 1).toNatClampNeg _ = _; rw [q48, lD1]
              have y49 : gF y 49 = upd (gF st 49) (D + 1) (gI u 36) := by rw [hy2]; show upd (gF x 49) (l + 1).toNatClampNeg _ = _; rw [q49, x49, lD1]
              have y50 : gF y 50 = upd (gF w' 50) (D + 1) 0 := by rw [hy2]; show upd (gF x 50) (l + 1).toNatClampNeg _ = _; rw [q50, lD1]
              have y51 : gF y 51 = upd (gF x 51) (D + 1) 0 := by rw [hy2]; show upd (gF x 51) (l + 1).toNatClampNeg _ = _; rw [lD1]
              have y41 : gI y 41 = gI w 41 := by rw [hy2]; exact q41.trans x41
              have yT : ∀ k, 42 ≤ k → k ≤ 45 → gF y k = gF w k := fun k k1 k2 => by
                rw [hy2, gF_sF, if_neg (by omega), gF_sF, if_neg (by omega), gF_sF, if_neg (by omega), gF_sF, if_neg (by omega), gF_sF, if_neg (by omega)]
                exact (qT k k1 k2).trans (xT k k1 k2)
              have hFy : Fr [31, 32, 33, 34, 35, 36, 37, 38, 39, 40, 41] [42, 43, 44, 45, 46, 47, 48, 49, 50, 51] st0 y := by rw [hy2]; exact ((((hFx.sF (by decide)).sF (by decide)).sF (by decide)).sF (by decide)).sF (by decide)
              have z47 : gF y 47 (D + 1) = gF st0 3 (31 * (gF st 47 D).toNatClampNeg + (gI u 33).toNatClampNeg) := by rw [y47, upd_eq rfl]
              have z48 : gF y 48 (D + 1) = gI u 35 := by rw [y48, upd_eq rfl]
              have z49 : gF y 49 (D + 1) = gI u 36 := by rw [y49, upd_eq rfl]
              have z50 : gF y 50 (D + 1) = 0 := by rw [y50, upd_eq rfl]
              have k47 : ∀ d, d ≠ D + 1 → gF y 47 d = gF st 47 d := fun d hd => by rw [y47, upd_ne hd]
              have k49 : ∀ d, d ≠ D + 1 → gF y 49 d = gF st 49 d := fun d hd => by rw [y49, upd_ne hd]
              have k48 : ∀ d, d ≠ D + 1 → d ≠ D → gF y 48 d = gF st 48 d := fun d hd hd2 => by rw [y48, upd_ne hd, x48, upd_ne hd2]
              have k48' : gF y 48 D = gI u 36 := by rw [y48, upd_ne (by omega), x48, upd_eq rfl]
              have k50 : ∀ d, d ≠ D + 1 → d ≠ D → gF y 50 d = gF st 50 d := fun d hd hd2 => by rw [y50, upd_ne hd, x50, upd_ne hd2]
              have k50' : gF y 50 D = gI u 33 := by rw [y50, upd_ne (by omega), x50, upd_eq rfl]
              refine ih (D + 1 + 1) (l + 1) y (by omega) (by omega) ⟨hFy, fun d hd => ?_, fun d hd => ?_, ?_, ⟨fun _ => by rw [k49 0 (by omega)]; exact h49, ?_⟩, ?_⟩ (fun h => absurd h (by omega)) (fun _ => ?_)
              · by_cases e1 : d = D + 1
                · subst e1
                  rw [z47, z48, z49, z50]
                  exact ⟨i1, by omega, i3, by omega, by omega, by omega, by decide, by decide⟩
                · by_cases e2 : d = D
                  · subst e2
                    rw [k47 _ e1, k48', k49 _ e1, k50']
                    exact ⟨a1, a2, a3, by omega, by omega, a6, b6, b5⟩
                  · rw [k47 d e1, k48 d e1 e2, k49 d e1, k50 d e1 e2]
                    exact hL d (by omega)
              · by_cases e2 : d = D
                · subst e2
                  rw [k48', z49]
                · rw [k48 d (by omega) e2, k49 (d + 1) (by omega)]
                  exact hC d (by omega)
              · rw [y41]
                refine ⟨wP.1, wP.2.1, fun _ => ?_⟩
                have h3 := wP.2.2
                by_cases e : D = 0
                · rw [if_pos e] at h3
                  subst e
                  rw [k50']
                  exact h3
                · rw [if_neg e] at h3
                  rw [k50 0 (by omega) (by omega)]
                  exact h3
              · rw [y41]
                have hw := wQ.fr (t := y) yT
                unfold tpA
                rw [pif_neg (by omega)]
                by_cases e : D = 0
                · rw [pif_pos e] at hw
                  subst e
                  rw [k48', p36]; exact hw
                · rw [pif_neg e] at hw
                  rw [k48 0 (by omega) (by omega)]; exact hw
              · rw [← hS, all_succ, all_succ, all_succ]
                have lev : ∀ d, d < D → (LvS st0 y d ↔ LvS st0 st d) := fun d hd => by
                  unfold LvS
                  rw [k47 _ (by omega), k48 _ (by omega) (by omega), k49 _ (by omega), k50 _ (by omega) (by omega), y51, upd_ne (by omega), q51, upd_ne (by omega)]
                rw [all_c lev]
                have top : LvS st0 st D ↔ LvS st0 y D ∧ LvS st0 y (D + 1) := by
                  unfold LvS
                  rw [hne2, k47 _ (by omega), k48', k49 _ (by omega), k50', y51, upd_ne (by omega), q51, upd_eq rfl, z47, z48, z49, z50, upd_eq rfl, p36, p35, n33]
                  rw [n33] at hy k6
                  exact ⟨fun q => ⟨q.2.2.1, q.2.2.2 hy k6⟩, fun q => ⟨hPc, hOk, q.1, fun _ _ => q.2⟩⟩
                rw [top, and_assoc]
              · rw [show D + 1 + 1 - 1 = D + 1 by omega, z48]
                rw [t35]
                omega
            simp only [Ok_pif, Ok_nam, Ok_gd, t_in, x33, e31, e31n, y2]
            refine ⟨fun h => absurd h (by decide), fun _ => ⟨by omega, fun cg => g264 w' hFw' rfl rfl rfl rfl ?_ rfl (fun _ _ _ => rfl) rfl rfl, fun cg => ⟨by omega, by omega, by omega, g264 _ (hFw'.sF (by decide)) rfl rfl rfl rfl ?_ rfl (fun k k1 k2 => by rw [gF_sF, if_neg (by omega)]) rfl rfl⟩⟩⟩
            · rw [x51]
              funext d
              unfold gsN
              rw [pif_neg (fun q => by
                have := q.2
                unfold grN at this
                rw [← n33] at this
                rw [t_le] at cg
                have z0 : (0 : Int32).toInt = 0 := rfl
                omega)]
              by_cases e : d = D
              · rw [upd_eq e, e]
              · rw [upd_ne e]
            · rw [gF_sF, if_pos rfl, x51]
              unfold gsN
              rw [pif_pos ⟨by rw [← n33]; exact hy, by
                unfold grN
                rw [← n33]
                rw [t_le] at cg
                have z0 : (0 : Int32).toInt = 0 := rfl
                omega⟩]
              unfold grN
              rw [← n33, lD]
          · simp only [Ok_pif]
            refine ⟨fun _ => same w' hFw' rfl rfl rfl rfl ?_ rfl (fun _ _ _ => rfl) (fun h => hno h.1), fun h => by simp at h⟩
            rw [x51]
            funext d
            unfold gsN
            rw [pif_neg (fun q => hno (by rw [n33]; exact q.1))]
            by_cases e : d = D
            · rw [upd_eq e, e]
            · rw [upd_ne e]
        have u47 : gF u 47 = gF st 47 := (hFu.2 47 (by decide)).1
        have u48 : gF u 48 = gF st 48 := (hFu.2 48 (by decide)).1
        have u49 : gF u 49 = gF st 49 := (hFu.2 49 (by decide)).1
        have u50 : gF u 50 = gF st 50 := (hFu.2 50 (by decide)).1
        have u51 : gF u 51 = gF st 51 := (hFu.2 51 (by decide)).1
        have uT : ∀ k, 42 ≤ k → k ≤ 45 → gF u k = gF st k := fun k k1 k2 => (hFu.2 k (by simp)).1
        have u41 : gI u 41 = gI st 41 := (hFu.1 41 (by decide)).1
        refine ⟨fun c0 => ?_, fun c0 => ?_⟩
        · have hD0 : D = 0 := by rw [c0] at hl; have : (0 : Int32).toInt = 0 := rfl; omega
          subst hD0
          have hp0 := hP.2.2 (by omega)
          simp only [Ok_gd, Ok_nam, t_in, gI_sF, gI_sL, gJ_sF, u41]
          have e41 : (gI st 41 + 1).toInt = (gI st 41).toInt + 1 := by rw [t_add (by show -2147483648 ≤ (gI st 41).toInt + 1; omega) (by show (gI st 41).toInt + 1 < 2147483648; omega)]; rfl
          have nn : (gF st 49 0).toNatClampNeg = n := by rw [t_nat]; omega
          refine ⟨by omega, by omega, by omega, by omega, by omega, tail _ ((((((hFu2.sF (by decide)).sF (by decide)).sF (by decide)).sF (by decide)).sL (by decide)).sI (by decide)) u47 u48 u49 u50 u51 rfl rfl rfl ?_ ?_⟩
          · rw [if_pos rfl]
            show 0 ≤ (gI st 41 + 1).toInt ∧ (gI st 41 + 1).toInt ≤ 30 ∧ (gI st 41 + 1).toInt ≤ (gI u 33).toInt
            omega
          · rw [pif_pos rfl, nn]
            show TbR (gF st0 30) n (gI st 41 + 1).toNatClampNeg _ _
            have eN : (gI st 41 + 1).toNatClampNeg = (gI st 41).toNatClampNeg + 1 := by rw [t_nat, t_nat, e41]; omega
            rw [eN]
            unfold tpA at hQ
            rw [pif_neg (by omega)] at hQ
            obtain ⟨c, hc, hr⟩ := hQ
            rw [nn] at hPc
            refine ⟨_, hc.snoc hPc, fun i hi => ?_⟩
            have r36 : (gI u 36).toInt = pTo (gF st0 30) (gF st 48 0).toNatClampNeg n := by
              rw [← nn]
              have : (gI u 36).toNatClampNeg = pTo (gF st0 30) (gF st 48 0).toNatClampNeg (gF st 49 0).toNatClampNeg := by rw [t_nat, v36, eV1, eV2, eFr]; rfl
              rw [← this, t_nat]
              omega
            have r35 : (gI u 35).toInt = pFr (gF st0 30) (gF st 48 0).toNatClampNeg := by rw [v35, eFr]
            have r33 : (gI u 33).toInt = pNu (gF st0 30) (gF st 48 0).toNatClampNeg := by rw [← n33, t_nat]; omega
            show (upd (gF u 42) (gI st 41).toNatClampNeg (gI u 33) i).toInt = _ ∧ (upd (gF u 43) (gI st 41).toNatClampNeg (gF st 48 0) i).toInt = _ ∧ (upd (gF u 44) (gI st 41).toNatClampNeg (gI u 35) i).toInt = _ ∧ (upd (gF u 45) (gI st 41).toNatClampNeg (gI u 36) i).toInt = _
            rw [if_pos (by omega : i ≤ (gI st 41).toNatClampNeg)]
            by_cases e : i = (gI st 41).toNatClampNeg
            · rw [upd_eq e, upd_eq e, upd_eq e, upd_eq e, e, hc.2.1]
              exact ⟨r33, by omega, r35, r36⟩
            · rw [upd_ne e, upd_ne e, upd_ne e, upd_ne e, uT 42 (by decide) (by decide), uT 43 (by decide) (by decide), uT 44 (by decide) (by decide), uT 45 (by decide) (by decide)]
              exact hr i (by omega)
        · have hD0 : ¬ D = 0 := fun h => c0 (by rw [t_eq]; have : (0 : Int32).toInt = 0 := rfl; omega)
          refine tail u hFu2 u47 u48 u49 u50 u51 rfl rfl rfl ?_ ?_
          · rw [u41]
            refine ⟨hP.1, hP.2.1, ?_⟩
            rw [if_neg hD0]
            exact hP.2.2 (by omega)
          · rw [u41, pif_neg hD0]
            unfold tpA at hQ
            rw [pif_neg (by omega)] at hQ
            exact hQ.fr uT
theorem r_rd {n0 m0 : Int32} {st : RS} (h1 : 0 ≤ n0.toInt) (h2 : n0.toInt ≤ 120) (hm : mkN st m0) (hM : MkI st) : Ok (x9_reads n0 m0 st) (RdQ st n0.toNatClampNeg m0.toNatClampNeg) := by
  unfold x9_reads
  simp only [Ok_nam]
  obtain ⟨hm1, hm2, hm3⟩ := hm
  refine Ok.callv (r_opens (by decide) (by decide)) (fun t ht => ?_)
  have z : (0 : Int32).toNatClampNeg = 0 := rfl
  have a47 : gF t 47 0 = m0 := by rw [ht]; rfl
  have a48 : gF t 48 0 = 0 := by rw [ht]; rfl
  have a49 : gF t 49 0 = n0 := by rw [ht]; rfl
  have a50 : gF t 50 0 = 0 := by rw [ht]; rfl
  have a51 : gF t 51 0 = 0 := by rw [ht]; rfl
  have a41 : gI t 41 = 0 := by rw [ht]; rfl
  have n0n : (n0.toNatClampNeg : Int) = n0.toInt := by rw [t_nat]; omega
  have z0 : (0 : Int32).toInt = 0 := rfl
  refine r_rd25 st _ _ (by omega) hM fuel 1 0 t (by decide) (by decide) ⟨?_, fun d hd => ?_, fun d hd => absurd hd (by omega), ?_, ⟨fun _ => by rw [a49]; omega, ?_⟩, ?_⟩ (fun h => absurd h (by decide)) (fun _ => ?_)
  · rw [ht]
    exact (((((((Fr.rf.sI (by decide)).sI (by decide)).sI (by decide)).sF (by decide)).sF (by decide)).sF (by decide)).sF (by decide)).sF (by decide)
  · obtain rfl : d = 0 := by omega
    rw [a47, a48, a49, a50]
    exact ⟨hm1, by omega, hm3, by omega, by omega, by omega, by omega, by omega⟩
  · rw [a41, a50]
    exact ⟨by omega, by omega, fun _ => by omega⟩
  · unfold tpA
    rw [pif_neg (by decide), a48, a41]
    exact ⟨fun _ => 0, ⟨rfl, rfl, fun i hi => absurd hi (by show ¬ i < 0; omega)⟩, fun i hi => absurd hi (by show ¬ i < 0; omega)⟩
  · have e1 : LvS st t 0 ↔ Sd st (gF st 30) m0.toNatClampNeg 0 n0.toNatClampNeg 0 0 := by
      unfold LvS
      rw [a47, a48, a49, a50, a51]
      exact Iff.rfl
    rw [← e1]
    exact ⟨fun h => h 0 (by omega), fun h d hd => by rw [show d = 0 by omega]; exact h⟩
  · rw [show 1 - 1 = 0 from rfl, a48]
    unfold fuel
    omega
