/-- what a scan at depth D leaves -/
def ScE (r : RS) (f : Nat → Int32) (m a b last : Nat) (gs : Int32) (g0 : CS) (D : Nat) (q : Int32 × CS) : Prop := Sr g0 q.2 ∧ ((q.1 = 1 ∧ Sd r f m a b last gs) ∨ (q.1 = 0 ∧ ¬ Sd r f m a b last gs)) ∧ ∀ j, j < D → j < 8 → qI q.2 (50 + j) = qI g0 (50 + j)
theorem ScE.im {r : RS} {f : Nat → Int32} {m a b last m' a' b' last' D : Nat} {gs gs' : Int32} {g0 : CS} {q : Int32 × CS} (h : ScE r f m a b last gs g0 D q) (hi : Sd r f m a b last gs ↔ Sd r f m' a' b' last' gs') : ScE r f m' a' b' last' gs' g0 D q := by
  unfold ScE at *
  rw [← hi]
  exact h
theorem m_refuse {r : RS} {f : Nat → Int32} {m a b last D : Nat} {gs x y : Int32} {g g0 : CS} (hS : Sr g0 g) (hD : ∀ j, j < D → j < 8 → qI g (50 + j) = qI g0 (50 + j)) (hn : ¬ Sd r f m a b last gs) : Ok (gd (qk g 48 = 6) (bnd (fX3_refuse 48 x y g) (fun r t => gd (narrow .boolean (.int r) = .int r) (some (r, t))))) (ScE r f m a b last gs g0 D) := by
  have h := hS.1
  unfold fX3_refuse
  simp only [Ok_gd, Ok_bnd, Ok_some, Ok_nam]
  have hF : Cf [48] g (wI (wI g 48 2 x) 48 3 y) := (Cf.rf.wI (by simp)).wI (by simp)
  exact ⟨h.2.2.2.1.1, h.2.2.2.1.1, by decide, hS.tr (Sr.ob h hF (by decide)), Or.inr ⟨rfl, hn⟩, fun j h1 h2 => (hF.i (by simp; omega)).trans (hD j h1 h2)⟩
theorem rw_ne {row cap : Nat} (h : isRw row cap) : (∀ i, i ∈ rdL → i ≠ row ∧ i ≠ row + 1) := by
  rcases h with ⟨rfl | rfl | rfl | rfl, -⟩ | ⟨rfl | rfl, -⟩ <;> decide
theorem RwB.sr {g t : CS} {row cap n : Nat} {f : Nat → Int32} (h : RwB g row n f) (hrw : isRw row cap) (hS : Sr g t) : RwB t row n f := h.fr hS.2 (fun q => (rw_ne hrw row q).1 rfl) (fun q => (rw_ne hrw (row + 1) q).2 rfl)
/-- a scan at lesser depth -/
def IhS (r : RS) (f : Nat → Int32) (n d : Nat) : Prop := ∀ (row cap D m mk a b : Nat) (fr to dp : Int32) (g : CS), isRw row cap → IR g r → RwB g row n f → dp.toInt = D → 8 < D + d → fr.toInt = a → to.toInt = b → a ≤ b → b ≤ n → tld r m → EqM g mk r m → m + D ≤ 7 → Ok (fX3_scanN d 48 (some row) fr to (some mk) dp g) (ScE r f m a b 0 0 g D)
set_option maxHeartbeats 2000000 in
theorem m_scan48 (r : RS) (f : Nat → Int32) (n : Nat) (hn : n ≤ 120) (d : Nat) (ihd : IhS r f n d) (row cap D m mk b : Nat) (to dp : Int32) (g0 : CS) (hrw : isRw row cap) (hI0 : IR g0 r) (hB0 : RwB g0 row n f) (hdp : dp.toInt = D) (hd : 8 < D + 1 + d) (hto : to.toInt = b) (hbn : b ≤ n) (htm : tld r m) (hmk0 : EqM g0 mk r m) (hmD : m + D ≤ 7) : ∀ (z i a last : Nat) (l7 l8 l9 x : Int32) (g : CS), x.toInt = i → 120 - i < z → l9.toInt = a → 2 * i ≤ a → a ≤ b → l7.toInt = last → Sr g0 g → (∀ j, j < D → j < 8 → qI g (50 + j) = qI g0 (50 + j)) → Ok (fX3_scan_48 48 (fX3_scanN d) z (some row) to (some mk) dp (some (50 + D)) l7 l8 l9 x g) (ScE r f m a b last l8 g0 D) := by
  intro z
  induction z with
  | zero => intro i a last l7 l8 l9 x g q1 q2; omega
  | succ z ih =>
    intro i a last l7 l8 l9 x g hx hz h9 hia hab h7 hS hJ
    have hC := hS.1
    have hI := hI0.c hS.sf
    have e := inc (x := x) (by omega) (by omega)
    have hD : D < 8 := by omega
    have hpc : isPc (50 + D) := Or.inl ⟨by omega, by omega⟩
    have hpr := pc_rdL hD
    have hrow := hC.2.2.2.2.2.2.2.2.2.get hrw
    have hne := rw_ne hrw _ hpr
    have hB := hB0.sr hrw hS
    rw [fX3_scan_48_s]
    simp only [Ok_pif, Ok_some, Ok_ono]
    rw [t_le, t_le, hto, h9, show (120 : Int32).toInt = 120 from rfl]
    refine ⟨fun c => by omega, fun c1 => ⟨fun c => ⟨hS, Or.inl ⟨rfl, ?_⟩, hJ⟩, fun c2 => ⟨50 + D, rfl, ?_⟩⟩⟩
    · rw [show a = b by omega]; exact Sd.nil
    have hab2 : a ≠ b := by omega
    rw [Ok_gd]
    refine ⟨hC.pc hpc, Ok.callv (m_lk (hC.pc hpc) hne h9 hto hab hbn (by omega) hB hrow) (fun t ht => ?_)⟩
    obtain ⟨hFt, hL⟩ := ht
    have hSt := Sr.ob hC hFt hpr
    have hS2 := hS.tr hSt
    have hCt := hSt.1
    have hIt := hI0.c hS2.sf
    have hBt := hB0.sr hrw hS2
    have hJ2 : ∀ j, j < D → j < 8 → qI t (50 + j) = qI g0 (50 + j) := fun j h1 h2 => (hFt.i (by simp; omega)).trans (hJ j h1 h2)
    have hmt : EqM t mk r m := hmk0.cf cfL_s hS2.sf.2
    have hkm : qk t mk = 4 := by obtain ⟨ar, -, q, -⟩ := hmt; exact q.1
    simp only [Ok_ono, Ok_gd]
    refine ⟨mk, rfl, hkm, Ok.same (m_knownAt hmt) (fun o ho => Ok.same (m_faultOf (hCt.pc hpc) hL ho (hCt.2.2.2.2.2.2.2.2.2.get hrw) hBt hbn (by omega) h7) (fun w hw => ?_))⟩
    rw [Ok_pif]
    refine ⟨fun c0 => ?_, fun c0 => m_refuse hS2 hJ2 (fun q => c0 (hw.mpr ⟨((Sd.iff hab2).mp q).1, ((Sd.iff hab2).mp q).2.1⟩))⟩
    obtain ⟨hP, hOk⟩ := hw.mp c0
    have hlt := hP.lt
    have h5 : qI t (50 + D) 5 = 0 := Classical.byContradiction (fun q => hL.bad q ⟨hP, hOk.1, hOk.2.1⟩)
    obtain ⟨-, -, -, -, p0, -, p3, p4, -, -⟩ := hL.pc (hCt.pc hpc) h5
    have hnu : (qI t (50 + D) 0).toNatClampNeg = pNu f a := by rw [p0]; rfl
    have pi0 : (qI t (50 + D) 0).toInt = pNu f a := by rw [p0]; exact pNu_i
    rw [hnu] at ho
    have ho : KnO t r m (pNu f a) o := ho
    -- the piece is through
    have next : ∀ u : CS, Sr t u → (∀ j, j ≤ D → j < 8 → qI u (50 + j) = qI t (50 + j)) → (hasN r m (pNu f a) → kdN r m (pNu f a) = 6 → Sd r f (inM r m (pNu f a)) (pFr f a) (pTo f a b) 0 0) → Ok (fX3_scan_154 48 (fX3_scanN d) (fX3_scan_48 48 (fX3_scanN d) z) (some row) to (some mk) dp (some (50 + D)) l8 x o u) (ScE r f m a b last l8 g0 D) := by
      intro u hu hJu hin
      unfold fX3_scan_154
      have hou : KnO u r m (pNu f a) o := ⟨ho.1, fun y hy => (ho.2 y hy).cf cfL_s hu.sf.2⟩
      refine Ok.same (m_groupBit hou) (fun v hv => ?_)
      simp only [Ok_nam, Ok_ono, Ok_gd]
      have e4 := hJu D (Nat.le_refl _) hD
      refine ⟨50 + D, rfl, hu.1.pc hpc, ?_⟩
      rw [e4, hv, gsN_gb]
      refine (ih (i + 1) (pTo f a b) (pNu f a) _ _ _ _ u (by rw [e, hx]; rfl) (by omega) p4 (by omega) hlt.2.2 pi0 (hS2.tr hu) (fun j h1 h2 => (hJu j (by omega) h2).trans (hJ2 j h1 h2))).mono (fun q hq => hq.im ?_)
      rw [Sd.iff hab2]
      exact ⟨fun q => ⟨hP, hOk, q, hin⟩, fun q => q.2.2.1⟩
    refine Ok.bc (m_isRec ho) (fun c6 => ?_) (fun c6 => ?_)
    · rw [pif_neg (by decide)]
      have e44 : qP t 48 0 = some 44 := hCt.2.2.2.1.2.1
      obtain ⟨H, eH⟩ := Option.ne_none_iff_exists'.mp (ho.1.mpr c6.1)
      have hH := ho.2 H eH
      simp only [Ok_gd, Ok_ono]
      refine ⟨hCt.2.2.2.1.1, H, eH, hH.1.1, ?_⟩
      rw [e44]
      refine Ok.same (m_mk hIt) (fun mi hmi => ?_)
      have e3 : qI t H 3 = gF r 3 (31 * m + pNu f a) := hH.2.2.2.2.1 c6.2
      have hin := (hI0.2.1 m (pNu f a) htm.1 htm.2 c6.1).2.1 c6.2
      have hmk : mkN r (qI t H 3) := by
        rw [e3]
        exact ⟨hin.1, by have := htm.1; omega, hin.2.2⟩
      obtain ⟨k, ek⟩ := Option.ne_none_iff_exists'.mp (hmi.1.mpr hmk)
      have hk := (hmi.2 k ek).2
      have einm : (qI t H 3).toNatClampNeg = inM r m (pNu f a) := by rw [e3]; rfl
      rw [einm] at hk
      have ed : (dp + 1).toInt = (D + 1 : Nat) := by rw [inc (by omega) (by omega), hdp]; rfl
      have hlt2 : inM r m (pNu f a) < m := by
        unfold inM
        rw [t_nat]
        omega
      have tin : tld r (inM r m (pNu f a)) := ⟨by have := htm.1; omega, hin.2.2⟩
      rw [ek]
      refine Ok.call (ihd row cap (D + 1) (inM r m (pNu f a)) k (pFr f a) (pTo f a b) _ _ (dp + 1) t hrw hIt hBt ed (by omega) p3 p4 hlt.2.1 (by omega) tin hk (by omega)) (fun r2 u hu => ?_)
      obtain ⟨u1, u2, u3⟩ := hu
      have u1 : Sr t u := u1
      rcases u2 with ⟨u2, u4⟩ | ⟨u2, u4⟩
      · have u2 : r2 = 1 := u2
        rw [u2, pif_neg (by decide)]
        exact next u u1 (fun j h1 h2 => u3 j (by omega) h2) (fun _ _ => u4)
      · have u2 : r2 = 0 := u2
        rw [u2, pif_pos rfl, Ok_some]
        exact ⟨hS2.tr u1, Or.inr ⟨rfl, fun q => u4 (((Sd.iff hab2).mp q).2.2.2 c6.1 c6.2)⟩, fun j h1 h2 => (u3 j (by omega) h2).trans (hJ2 j h1 h2)⟩
    · rw [pif_pos rfl]
      exact next t (Sr.rf hCt) (fun _ _ _ => rfl) (fun q1 q2 => absurd ⟨q1, q2⟩ c6)
theorem m_scanN (r : RS) (f : Nat → Int32) (n : Nat) (hn : n ≤ 120) : ∀ d, IhS r f n d := by
  intro d
  induction d with
  | zero =>
    intro row cap D m mk a b fr to dp g hrw hI hB hdp hd ha hb hab hbn htm hmk hmD
    exact absurd hd (by omega)
  | succ d ihd =>
    intro row cap D m mk a b fr to dp g hrw hI hB hdp hd ha hb hab hbn htm hmk hmD
    have hC := hI.1
    show Ok (fX3_scan (fX3_scanN d) 48 (some row) fr to (some mk) dp g) (ScE r f m a b 0 0 g D)
    unfold fX3_scan
    obtain ⟨r1, r2, r3, r4, r5, r6⟩ := hC.2.2.2.1
    rw [pif_neg (by simp), pif_neg (by rw [t_lt, hdp, show (0 : Int32).toInt = 0 from rfl]; omega), Ok_gd, Ok_ono]
    refine ⟨r1, 49, r3, ?_⟩
    rw [Ok_gd, pif_pos (by rw [t_lt, e_nI (by rw [r5]; decide), r5, hdp]; show (D : Int) < 8; omega), Ok_gd, Ok_nam]
    have dn : dp.toNatClampNeg = D := by rw [t_nat]; omega
    rw [dn, (r6 D (by omega)).1]
    refine ⟨r4, by rw [t_in, r5]; omega, ?_⟩
    exact m_scan48 r f n hn d ihd row cap D m mk b to dp g hrw hI hB hdp (by omega) hb hbn htm hmk hmD fuel 0 a 0 0 0 fr 0 g rfl (by unfold fuel; omega) ha (by omega) hab rfl (Sr.rf hC) (fun _ _ _ => rfl)
/-- isSound() is what the pieces say -/
theorem m_isSound {row cap m mk n : Nat} {f : Nat → Int32} {g : CS} {r : RS} (hI : IR g r) (hrw : isRw row cap) (hB : RwB g row n f) (hn : n ≤ 120) (htm : tld r m) (hmk : EqM g mk r m) : Ok (fX3_isSound 48 (some row) (some mk) g) (fun q => Sr g q.2 ∧ ((q.1 = 1 ∧ Sd r f m 0 n 0 0) ∨ (q.1 = 0 ∧ ¬ Sd r f m 0 n 0 0))) := by
  have h := hI.1
  unfold fX3_isSound
  simp only [Ok_gd, Ok_nam, Ok_ono]
  have hF : Cf [48] g (wI (wI g 48 2 0) 48 3 (-1)) := (Cf.rf.wI (by simp)).wI (by simp)
  have hS := Sr.ob h hF (by decide)
  generalize wI (wI g 48 2 0) 48 3 (-1) = g1 at hF hS ⊢
  have hr := hS.1.2.2.2.2.2.2.2.2.2.get hrw
  have hB1 := hB.sr hrw hS
  refine ⟨h.2.2.2.1.1, row, rfl, hr.1, Ok.call (c_size hr) (fun q t ht => ?_)⟩
  have e1 : q = qI g1 row 1 := congrArg Prod.fst ht
  have e2 : t = g1 := congrArg Prod.snd ht
  subst e2
  subst e1
  have htm8 := htm.1
  refine Ok.call (m_scanN r f n hn 12 row cap 0 m mk 0 n 0 (qI t row 1) 0 t hrw (hI.c hS.sf) hB1 rfl (by omega) rfl hB1.1 (by omega) (by omega) htm (hmk.cf cfL_s hS.sf.2) (by omega)) (fun r u hu => ?_)
  obtain ⟨u1, u2, -⟩ := hu
  have u1 : Sr t u := u1
  rw [Ok_gd, Ok_some]
  rcases u2 with ⟨u2, u3⟩ | ⟨u2, u3⟩
  · have u2 : r = 1 := u2
    rw [u2]
    exact ⟨by decide, hS.tr u1, Or.inl ⟨rfl, u3⟩⟩
  · have u2 : r = 0 := u2
    rw [u2]
    exact ⟨by decide, hS.tr u1, Or.inr ⟨rfl, u3⟩⟩
/-! counting and finding -/
noncomputable def cntP (P : Nat → Prop) (f : Nat → Int32) (b : Nat) : Nat → Nat → Nat
  | 0, _ => 0
  | z + 1, a => pif (a < b) (pif (P (pNu f a)) 1 0 + cntP P f b z (pTo f a b)) 0
/-- the first piece with a number: where it stands, or b -/
noncomputable def fndP (f : Nat → Int32) (b n : Nat) : Nat → Nat → Option Nat
  | 0, _ => none
  | z + 1, a => pif (a < b) (pif (pNu f a = n) (some a) (fndP f b n z (pTo f a b))) none
