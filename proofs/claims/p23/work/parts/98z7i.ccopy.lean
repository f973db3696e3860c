/-! the class's writer: pieces copied, rows written anew -/
def wtL : List Nat := [60, 61, 62, 63, 64, 65, 66, 67, 74, 75]
theorem wtL_in : ∀ i, i ∈ wtL → i ∈ cfL := by decide
def Sw (g t : CS) : Prop := CI t ∧ Cf wtL g t
theorem Sw.rf {g : CS} (h : CI g) : Sw g g := ⟨h, Cf.rf⟩
theorem Sw.tr {a b c : CS} (h1 : Sw a b) (h2 : Sw b c) : Sw a c := ⟨h2.1, h1.2.tr h2.2⟩
theorem Sw.sf {g t : CS} (h : Sw g t) : Sf g t := ⟨h.1, h.2.wk wtL_in⟩
theorem pc_wtL {D : Nat} (h : D < 8) : 60 + D ∈ wtL := by
  rcases (show D = 0 ∨ D = 1 ∨ D = 2 ∨ D = 3 ∨ D = 4 ∨ D = 5 ∨ D = 6 ∨ D = 7 by omega) with rfl | rfl | rfl | rfl | rfl | rfl | rfl | rfl <;> decide
theorem Sw.ob {g t : CS} {D : Nat} (h : CI g) (hD : D < 8) (hF : Cf [60 + D] g t) : Sw g t := ⟨(Sf.ob h hF (wtL_in _ (pc_wtL hD)) (by omega)).1, hF.wk (fun i hi => by rw [List.mem_singleton.mp hi]; exact pc_wtL hD)⟩
theorem isW74 : isRw 74 256 := Or.inr ⟨Or.inr rfl, rfl⟩
theorem Sw.row {g t : CS} (h : CI g) (hF : Cf [74, 75] g t) (hi : RowI t 74 256) : Sw g t := ⟨(Sf.row h isW74 hF hi).1, hF.wk (by decide)⟩
def isRc (row : Nat) : Prop := row = 36 ∨ row = 38 ∨ row = 40 ∨ row = 42
theorem isRc.rw {row : Nat} (h : isRc row) : isRw row 120 := Or.inl ⟨h, rfl⟩
theorem isRc.nw {row : Nat} (h : isRc row) : ∀ i, i ∈ wtL → i ≠ row ∧ i ≠ row + 1 := by
  rcases h with rfl | rfl | rfl | rfl <;> decide
theorem isRc.n74 {row : Nat} (h : isRc row) : row ≠ 74 ∧ row ≠ 74 + 1 ∧ row + 1 ≠ 74 ∧ row + 1 ≠ 74 + 1 := by
  rcases h with rfl | rfl | rfl | rfl <;> decide
theorem RwB.sw {g t : CS} {row n : Nat} {f : Nat → Int32} (h : RwB g row n f) (hrc : isRc row) (hS : Sw g t) : RwB t row n f := h.fr hS.2 (fun q => (hrc.nw row q).1 rfl) (fun q => (hrc.nw (row + 1) q).2 rfl)
/-- what writing at depth D leaves -/
def WtP (g : CS) (D : Nat) (l : List Int32) (t : CS) : Prop := Sw g t ∧ RwL t 74 l ∧ ∀ j, j < D → j < 8 → qI t (60 + j) = qI g (60 + j)
theorem WtP.pu {g g1 t : CS} {D : Nat} {l l1 : List Int32} (h : WtP g D l1 g1) (hp : PuL g1 74 256 l t) : WtP g D l t := ⟨h.1.tr (Sw.row h.1.1 hp.1 hp.2.1), hp.2.2, fun j h1 h2 => (hp.1.i (by simp; omega)).trans (h.2.2 j h1 h2)⟩
def IhW (r : RS) (f : Nat → Int32) (n d : Nat) : Prop := ∀ (row D m mk a b : Nat) (fr to dp : Int32) (g : CS) (l : List Int32), isRc row → IR g r → RwB g row n f → dp.toInt = D → 8 < D + d → fr.toInt = a → to.toInt = b → a ≤ b → b ≤ n → tld r m → EqM g mk r m → m + D ≤ 7 → (∃ last gs, Sd r f m a b last gs) → RwL g 74 l → l.length + (b - a) ≤ 256 → Ok (fX4_copyAllN d 58 (some row) fr to (some mk) (some 74) dp g) (WtP g D (l ++ wrR r f m a b))
theorem num_v2 {f : Nat → Int32} {a b : Nat} (hP : PcA f a b) (hl : plg (pV1 f a)) (hs : ¬ psh (pV1 f a) (pV2 f a) (pFr f a) b) : (pV2 f a).toInt = (pTo f a b - pFr f a : Nat) := by
  have hlt := hP.lt
  have e : pTo f a b = (pto (pV1 f a) (pV2 f a) (pFr f a) b).toNat := rfl
  have h1 : ¬ ((pV2 f a).toInt < 0 ∨ (b : Int) - pFr f a < (pV2 f a).toInt) := fun q => hs ⟨hl, q⟩
  unfold pto at e
  rw [pif_pos ⟨hl, hs⟩] at e
  omega
set_option maxHeartbeats 2000000 in
theorem m_copyPiece (r : RS) (f : Nat → Int32) (n : Nat) (hn : n ≤ 120) (d : Nat) (ihd : IhW r f n d) (row D m a b last : Nat) (gs st dp : Int32) (o : Option Nat) (g : CS) (l : List Int32) (hrc : isRc row) (hI : IR g r) (hB : RwB g row n f) (hdp : dp.toInt = D) (hd : 8 < D + 1 + d) (hst : st.toInt = a) (hbn : b ≤ n) (htm : tld r m) (hmD : m + D ≤ 7) (hp : PcE g (60 + D) f a b) (ho : KnO g r m (pNu f a) o) (hok : pOk r f m a b last gs) (hin : hasN r m (pNu f a) → kdN r m (pNu f a) = 6 → Sd r f (inM r m (pNu f a)) (pFr f a) (pTo f a b) 0 0) (hl : RwL g 74 l) (hlen : l.length + (pTo f a b - a) ≤ 256) : Ok (fX4_copyPiece (fX4_copyAllN d) 58 (some row) st o (some 74) dp g) (WtP g (D + 1) (l ++ pcB r f m a b (wrR r f (inM r m (pNu f a)) (pFr f a) (pTo f a b)))) := by
  have h := hI.1
  have hD : D < 8 := by omega
  obtain ⟨r1, r2, r3, r4, r5, r6, r7⟩ := h.2.2.2.2.1
  have dn : dp.toNatClampNeg = D := by rw [t_nat]; omega
  obtain ⟨p1, pA, p2, p3, p0, pl1, pb, pe, pj, p5⟩ := id hp
  have hlt := pA.lt
  have hnr := pNu_r (f := f) (a := a)
  have w0 : WtP g (D + 1) l g := ⟨Sw.rf h, hl, fun _ _ _ => rfl⟩
  unfold fX4_copyPiece
  rw [pif_neg (by rw [t_lt, hdp, show (0 : Int32).toInt = 0 from rfl]; omega), Ok_gd, Ok_ono]
  refine ⟨r1, 59, r3, ?_⟩
  rw [Ok_gd, pif_pos (by rw [t_lt, e_nI (by rw [r6]; decide), r6, hdp]; show (D : Int) < 8; omega), Ok_gd, Ok_nam, dn, (r7 D hD).1]
  refine ⟨r5, by rw [t_in, r6]; omega, ?_⟩
  by_cases co : o = none
  · have hno : ¬ hasN r m (pNu f a) := fun q => ho.1.mpr q co
    rw [pif_pos co, Ok_ono]
    refine ⟨60 + D, rfl, ?_⟩
    rw [Ok_gd, Ok_ono]
    refine ⟨p1, 74, rfl, ?_⟩
    rw [Ok_gd]
    refine ⟨(h.rw isW74).1, Ok.callv (m_app (h.rw isW74) hl (h.rw hrc.rw) hB hrc.n74 hst pe (by omega) (by omega) (by omega) (by omega)) (fun t ht => ?_)⟩
    rw [Ok_some]
    unfold pcB
    rw [pif_neg hno]
    exact w0.pu ht
  · rw [pif_neg co]
    obtain ⟨H, eH⟩ := Option.ne_none_iff_exists'.mp co
    subst eH
    have hH := ho.2 H rfl
    have hN := ho.1.mp co
    have hk := hH.kd
    have ek : gF r 1 (31 * m + pNu f a) = kdN r m (pNu f a) := rfl
    rw [ek] at hk
    have hk0 : (kdN r m (pNu f a)).toInt ≠ 0 := fun q => hN.2.2.2 (by show kdN r m (pNu f a) = 0; rw [t_eq, q]; rfl)
    have k5 : kdN r m (pNu f a) = 5 ↔ (kdN r m (pNu f a)).toInt = 5 := by rw [t_eq]; exact Iff.rfl
    have k6 : kdN r m (pNu f a) = 6 ↔ (kdN r m (pNu f a)).toInt = 6 := by rw [t_eq]; exact Iff.rfl
    rw [Ok_ono]
    refine ⟨74, rfl, ?_⟩
    rw [Ok_gd]
    refine ⟨(h.rw isW74).1, Ok.callv (m_pushK (h.rw isW74) hl hH hnr (by omega)) (fun t ht => ?_)⟩
    rw [ek] at ht
    have w1 := w0.pu ht
    have h1 := w1.1.1
    have hHt : EqF t H r (31 * m + pNu f a) (pNu f a) := hH.cf cfL_s w1.1.sf.2
    have ep : qI t (60 + D) = qI g (60 + D) := w1.2.2 D (by omega) hD
    have ej : qJ t (60 + D) = qJ g (60 + D) := ht.1.j (by simp; omega)
    have kp : qk t (60 + D) = 5 := h1.pc (Or.inr ⟨by omega, by omega⟩)
    rw [Ok_ono]
    refine ⟨H, rfl, ?_⟩
    rw [Ok_gd]
    refine ⟨hHt.1.1, Ok.bc (m_isNum hHt) (fun c => ?_) (fun c => ?_)⟩
    · rw [ek] at c
      rw [pif_neg (by omega)] at w1
      rw [pif_neg (by decide), Ok_ono]
      refine ⟨60 + D, rfl, ?_⟩
      rw [Ok_gd]
      refine ⟨kp, Ok.same (m_asNum kp) (fun v hv => ?_)⟩
      rw [ej, pj] at hv
      have hl2 : (viL (pV2 f a)).length ≤ vk f (a + vk f a) := by
        have k2 := pA.2.1.1
        have k10 := pA.2.1.2.1
        rcases Nat.lt_or_ge 9 (vk f (a + vk f a)) with q | q
        · have := (viL_pos (v := pV2 f a)).2; omega
        · exact viL_len k2 (vacc_lt f _ _ q)
      have k1 := pA.1.1
      have efr : pFr f a = a + vk f a + vk f (a + vk f a) := rfl
      have ev : fold v = pV2 f a := by rw [hv]; exact fold_punf _
      refine Ok.callv (m_pushN (v := v) (h1.rw isW74) w1.2.1 (by rw [ev, List.length_append, viL_k (by omega)]; show l.length + 1 + _ ≤ 256; omega)) (fun u hu => ?_)
      rw [Ok_some]
      rw [ev, List.append_assoc] at hu
      unfold pcB
      rw [pif_pos hN, pif_neg (fun q => by rw [k6] at q; omega), pif_neg (fun q => by rw [k5] at q; omega)]
      exact w1.pu hu
    · rw [ek] at c
      rw [pif_pos (by omega)] at w1
      rw [pif_pos rfl, hHt.kd.1, ek]
      have lg : plg (pV1 f a) := (hok.2.2.1 hN).mpr (by omega)
      have ev2 := num_v2 pA lg p3
      by_cases c5 : kdN r m (pNu f a) = 5
      · have hs12 := ((hok.2.2.2.1 hN).2 c5).1
        rw [pif_pos c5, Ok_ono]
        refine ⟨60 + D, rfl, ?_⟩
        rw [Ok_gd, ej, pj]
        have eiv : pV2 f a = iV (pTo f a b - pFr f a) := iV_of (by omega) ev2
        refine ⟨kp, Ok.callv (m_pushV (h1.rw isW74) w1.2.1 (by rw [eiv, viL_k (k := pTo f a b - pFr f a) (by omega), List.length_append, viL_k (by omega)]; show l.length + 1 + 1 ≤ 256; omega)) (fun u hu => ?_)⟩
        have w2 := w1.pu hu
        have eu : qI u (60 + D) = qI g (60 + D) := w2.2.2 D (by omega) hD
        refine Ok.callv (m_app (w2.1.1.rw isW74) w2.2.1 (w2.1.1.rw hrc.rw) (hB.sw hrc w2.1) hrc.n74 (by rw [eu]; exact pb) (by rw [eu]; exact pe) hlt.2.1 (by omega) (by omega) (by rw [eiv, List.length_append, List.length_append, viL_k (k := pTo f a b - pFr f a) (by omega), viL_k (by omega)]; show l.length + 1 + 1 + _ ≤ 256; omega)) (fun v hv => ?_)
        rw [Ok_some]
        rw [eiv, List.append_assoc, List.append_assoc] at hv
        unfold pcB
        rw [pif_pos hN, pif_neg (fun q => by rw [q] at c5; exact absurd c5 (by decide)), pif_pos c5]
        exact w2.pu hv
      · have c6 : kdN r m (pNu f a) = 6 := by
          rw [k6]
          rw [k5] at c5
          omega
        have hin2 := (hI.2.1 m (pNu f a) htm.1 htm.2 hN).2.1 c6
        have hlt2 : inM r m (pNu f a) < m := by
          unfold inM
          rw [t_nat]
          omega
        have tin : tld r (inM r m (pNu f a)) := ⟨by have := htm.1; omega, hin2.2.2⟩
        have hSi := hin hN c6
        have hli := wrR_len hI.2.1 hSi tin hlt.2.1 (by omega)
        rw [pif_neg c5]
        have e1 : (l ++ viL (iV (2 * pNu f a + 1))).length = l.length + 1 := by rw [List.length_append, viL_k (by omega)]; rfl
        refine Ok.call (c_size (h1.rw isW74)) (fun q t' ht' => ?_)
        have e2' : t' = t := congrArg Prod.snd ht'
        have eq' : q = qI t 74 1 := congrArg Prod.fst ht'
        subst e2'
        have qi : q.toInt = (l.length + 1 : Nat) := by rw [eq', w1.2.1.1, e1]
        refine Ok.callv (m_push (b := 0) (h1.rw isW74) w1.2.1 (by omega) (by decide) (by decide)) (fun u hu => ?_)
        have w2 := w1.pu hu
        have h2 := w2.1.1
        have eu : qI u (60 + D) = qI g (60 + D) := w2.2.2 D (by omega) hD
        have e44 : qP u 58 0 = some 44 := h2.2.2.2.2.1.2.1
        have eHu : qI u H = qI t' H := hu.1.i (by have := hH.1.2; simp; omega)
        have hHu : EqF u H r (31 * m + pNu f a) (pNu f a) := hH.cf cfL_s w2.1.sf.2
        rw [Ok_ono]
        refine ⟨60 + D, rfl, ?_⟩
        rw [Ok_gd, e44]
        have hIu := hI.c w2.1.sf
        refine ⟨h2.pc (Or.inr ⟨by omega, by omega⟩), Ok.same (m_mk hIu) (fun mi hmi => ?_)⟩
        have e3 : qI u H 3 = gF r 3 (31 * m + pNu f a) := hHu.2.2.2.2.1 c6
        have hmk : mkN r (qI u H 3) := by
          rw [e3]
          exact ⟨hin2.1, by have := htm.1; omega, hin2.2.2⟩
        obtain ⟨k, ekk⟩ := Option.ne_none_iff_exists'.mp (hmi.1.mpr hmk)
        have hkk := (hmi.2 k ekk).2
        have einm : (qI u H 3).toNatClampNeg = inM r m (pNu f a) := by rw [e3]; rfl
        rw [einm] at hkk
        have ed : (dp + 1).toInt = (D + 1 : Nat) := by rw [inc (by omega) (by omega), hdp]; rfl
        have e0 : (l ++ viL (iV (2 * pNu f a + 1)) ++ [(0 : Int32)]).length = l.length + 2 := by rw [List.length_append, e1]; rfl
        rw [ekk]
        refine Ok.callv (ihd row (D + 1) (inM r m (pNu f a)) k (pFr f a) (pTo f a b) _ _ (dp + 1) u _ hrc hIu (hB.sw hrc w2.1) ed (by omega) (by rw [eu]; exact pb) (by rw [eu]; exact pe) hlt.2.1 (by omega) tin hkk (by omega) ⟨0, 0, hSi⟩ w2.2.1 (by rw [e0]; omega)) (fun v hv => ?_)
        have w3 : WtP g (D + 1) _ v := ⟨w2.1.tr hv.1, hv.2.1, fun j j1 j2 => (hv.2.2 j j1 j2).trans (w2.2.2 j j1 j2)⟩
        refine Ok.call (c_size (w3.1.1.rw isW74)) (fun q2 v' hv' => ?_)
        have e3' : v' = v := congrArg Prod.snd hv'
        have eq2 : q2 = qI v 74 1 := congrArg Prod.fst hv'
        subst e3'
        have q2i : q2.toInt = (l.length + 2 + (wrR r f (inM r m (pNu f a)) (pFr f a) (pTo f a b)).length : Nat) := by rw [eq2, w3.2.1.1, List.length_append, e0]
        have es1 : (q2 - q).toInt = (1 + (wrR r f (inM r m (pNu f a)) (pFr f a) (pTo f a b)).length : Nat) := by rw [t_sub (by omega) (by omega), q2i, qi]; omega
        have es2 : (q2 - q - 1).toInt = ((wrR r f (inM r m (pNu f a)) (pFr f a) (pTo f a b)).length : Nat) := by
          rw [t_sub (by rw [es1, show (1 : Int32).toInt = 1 from rfl]; omega) (by rw [es1, show (1 : Int32).toInt = 1 from rfl]; omega), es1, show (1 : Int32).toInt = 1 from rfl]
          omega
        have hw : RwL v' 74 ((l ++ viL (iV (2 * pNu f a + 1))) ++ ((0 : Int32) :: wrR r f (inM r m (pNu f a)) (pFr f a) (pTo f a b))) := by
          have := w3.2.1
          rw [List.append_assoc] at this
          exact this
        refine Ok.callv (m_repl (k := 0) (w3.1.1.rw isW74) hw (by rw [qi, e1]) (by omega) (by omega)) (fun y hy => ?_)
        rw [Ok_some]
        unfold pcB
        rw [pif_pos hN, pif_pos c6]
        have e4 : viL (iV (wrR r f (inM r m (pNu f a)) (pFr f a) (pTo f a b)).length) ++ wrR r f (inM r m (pNu f a)) (pFr f a) (pTo f a b) = (q2 - q - 1) :: wrR r f (inM r m (pNu f a)) (pFr f a) (pTo f a b) := by
          rw [viL_k (by omega)]
          show Int32.ofNat _ :: _ = _
          congr 1
          rw [t_eq, es2, t_nI (by omega)]
        rw [e4, ← List.append_assoc]
        exact w3.pu hy
set_option maxHeartbeats 2000000 in
theorem m_copyAll36 (r : RS) (f : Nat → Int32) (n : Nat) (hn : n ≤ 120) (d : Nat) (ihd : IhW r f n d) (row D m mk b : Nat) (to dp : Int32) (g0 : CS) (W : List Int32) (hrc : isRc row) (hI0 : IR g0 r) (hB0 : RwB g0 row n f) (hdp : dp.toInt = D) (hd : 8 < D + 1 + d) (hto : to.toInt = b) (hbn : b ≤ n) (htm : tld r m) (hmk0 : EqM g0 mk r m) (hmD : m + D ≤ 7) : ∀ (z i a : Nat) (l8 x : Int32) (g : CS) (l : List Int32), x.toInt = i → 120 - i < z → l8.toInt = a → 2 * i ≤ a → a ≤ b → (∃ last gs, Sd r f m a b last gs) → WtP g0 D l g → l.length + (b - a) ≤ 256 → l ++ wrR r f m a b = W → Ok (fX4_copyAll_36 58 (fX4_copyAllN d) z (some row) to (some mk) (some 74) dp (some (60 + D)) l8 x g) (WtP g0 D W) := by
  intro z
  induction z with
  | zero => intro i a l8 x g l q1 q2; omega
  | succ z ih =>
    intro i a l8 x g l hx hz h8 hia hab hSd hW hlen hWW
    have hC := hW.1.1
    have hD : D < 8 := by omega
    have e := inc (x := x) (by omega) (by omega)
    have hpc : isPc (60 + D) := Or.inr ⟨by omega, by omega⟩
    have hne : (60 + D) ≠ row ∧ (60 + D) ≠ row + 1 := hrc.nw _ (pc_wtL hD)
    have hB := hB0.sw hrc hW.1
    rw [fX4_copyAll_36_s]
    generalize x + 1 = x' at e ⊢
    simp only [Ok_pif, Ok_some, Ok_ono]
    rw [t_le, t_le, hto, h8, hx, show (120 : Int32).toInt = 120 from rfl]
    refine ⟨fun c => by omega, fun c1 => ⟨fun c => ?_, fun c2 => ⟨60 + D, rfl, ?_⟩⟩⟩
    · rw [wrR_n (by omega), List.append_nil] at hWW
      rw [← hWW]; exact hW
    rw [Ok_gd]
    obtain ⟨last, gs, hSd⟩ := hSd
    obtain ⟨hP, hok, hrest, hin⟩ := (Sd.iff (by omega)).mp hSd
    have hlt := hP.lt
    refine ⟨hC.pc hpc, Ok.callv (m_lk (hC.pc hpc) hne h8 hto hab hbn (by omega) hB (hC.rw hrc.rw)) (fun t ht => ?_)⟩
    obtain ⟨hFt, hL⟩ := ht
    have hSt := Sw.ob hC hD hFt
    have hCt := hSt.1
    have hl74 : RwL t 74 l := hW.2.1.fr hFt (by simp; omega) (by simp; omega)
    have hW2 : WtP g0 D l t := ⟨hW.1.tr hSt, hl74, fun j h1 h2 => (hFt.i (by simp; omega)).trans (hW.2.2 j h1 h2)⟩
    have hmt : EqM t mk r m := hmk0.cf cfL_s hW2.1.sf.2
    have hkm : qk t mk = 4 := by obtain ⟨ar, -, q, -⟩ := hmt; exact q.1
    have h5 : qI t (60 + D) 5 = 0 := Classical.byContradiction (fun q => hL.bad q ⟨hP, hok.1, hok.2.1⟩)
    have hpe := hL.pc (hCt.pc hpc) h5
    obtain ⟨-, -, -, -, p0, -, p3, p4, -, -⟩ := id hpe
    have hnu : (qI t (60 + D) 0).toNatClampNeg = pNu f a := by rw [p0]; rfl
    simp only [Ok_ono, Ok_gd]
    refine ⟨mk, rfl, hkm, Ok.same (m_knownAt hmt) (fun o ho => ?_)⟩
    rw [hnu] at ho
    have ho : KnO t r m (pNu f a) o := ho
    rw [Ok_gd]
    refine ⟨hCt.2.2.2.2.1.1, Ok.callv (m_copyPiece r f n hn d ihd row D m a b last gs l8 dp o t l hrc (hI0.c hW2.1.sf) (hB0.sw hrc hW2.1) hdp hd h8 hbn htm hmD hpe ho hok hin hl74 (by omega)) (fun u hu => ?_)⟩
    have e4 : qI u (60 + D) = qI t (60 + D) := hu.2.2 D (by omega) hD
    simp only [Ok_nam]
    have hpl : (pcB r f m a b (wrR r f (inM r m (pNu f a)) (pFr f a) (pTo f a b))).length ≤ pTo f a b - a := by
      by_cases c : hasN r m (pNu f a)
      · by_cases c6 : kdN r m (pNu f a) = 6
        · exact pcB_len hP hok (wrR_len hI0.2.1 (hin c c6) ((hI0.2.1.hk m _ htm c).2 c6) hlt.2.1 (by omega)) (by omega) (hI0.2.1.hk m _ htm c).1
        · rw [pcB_c (i2 := []) (fun _ q => absurd q c6)]
          exact pcB_len hP hok (inner := []) (Nat.zero_le _) (by omega) (hI0.2.1.hk m _ htm c).1
      · unfold pcB
        rw [pif_neg c, seg_len]
        omega
    refine ih (i + 1) (pTo f a b) _ x' u _ (by omega) (by omega) (by rw [e4]; exact p4) (by omega) hlt.2.2 ⟨_, _, hrest⟩ ⟨hW2.1.tr hu.1, hu.2.1, fun j h1 h2 => (hu.2.2 j (by omega) h2).trans (hW2.2.2 j h1 h2)⟩ (by rw [List.length_append]; omega) ?_
    rw [← hWW, wrR_s hSd (by omega), List.append_assoc]
theorem m_copyAllN (r : RS) (f : Nat → Int32) (n : Nat) (hn : n ≤ 120) : ∀ d, IhW r f n d := by
  intro d
  induction d with
  | zero =>
    intro row D m mk a b fr to dp g l hrc hI hB hdp hd ha hb hab hbn htm hmk hmD
    exact absurd hd (by omega)
  | succ d ihd =>
    intro row D m mk a b fr to dp g l hrc hI hB hdp hd ha hb hab hbn htm hmk hmD hSd hl hlen
    have hC := hI.1
    show Ok (fX4_copyAll (fX4_copyAllN d) 58 (some row) fr to (some mk) (some 74) dp g) _
    unfold fX4_copyAll
    obtain ⟨r1, r2, r3, r4, r5, r6, r7⟩ := hC.2.2.2.2.1
    rw [pif_neg (by simp), pif_neg (by rw [t_lt, hdp, show (0 : Int32).toInt = 0 from rfl]; omega), Ok_gd, Ok_ono]
    refine ⟨r1, 59, r3, ?_⟩
    rw [Ok_gd, pif_pos (by rw [t_lt, e_nI (by rw [r6]; decide), r6, hdp]; show (D : Int) < 8; omega), Ok_gd, Ok_nam]
    have dn : dp.toNatClampNeg = D := by rw [t_nat]; omega
    rw [dn, (r7 D (by omega)).1]
    refine ⟨r5, by rw [t_in, r6]; omega, ?_⟩
    exact m_copyAll36 r f n hn d ihd row D m mk b to dp g _ hrc hI hB hdp (by omega) hb hbn htm hmk hmD fuel 0 a fr 0 g l rfl (by unfold fuel; omega) ha (by omega) hab hSd ⟨Sw.rf hC, hl, fun _ _ _ => rfl⟩ hlen rfl
