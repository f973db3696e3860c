theorem r_tb27 (st0 : RS) (hM : MkI st0) (P : RS → Prop) (k2 : Int32 → RS → Option RS) (k10 : Int32 → Int32 → RS → Option RS) (k18 : Int32 → Int32 → Int32 → RS → Option RS) (a b c : Int32) (A B C : Nat) (hA : a.toInt = A) (hB : b.toInt = B) (hC : c.toInt = C) (a8 : A < 8) (b8 : B < 8) (c8 : C < 8)
    (hk : ∀ t, Fr [] [57, 58] st0 t → TbE st0 (plA A B C 2) t → Ok (k18 a b (c + 1) t) P) : ∀ (z i : Nat) (x : Int32) (t : RS), x.toInt = i → i ≤ 2 → 2 - i < z → Fr [] [57, 58] st0 t → TbE st0 (plA A B C i) t → Ok (x9_walks_27 k2 k10 k18 z a b c x t) P := by
  have an : a.toNatClampNeg = A := by rw [t_nat]; omega
  have bn : b.toNatClampNeg = B := by rw [t_nat]; omega
  have cn : c.toNatClampNeg = C := by rw [t_nat]; omega
  intro z
  induction z with
  | zero => intro i x t h1 h2 h3; omega
  | succ z ih =>
    intro i x t hx hi hz hF hT
    have e := inc (x := x) (by omega) (by omega)
    have xn : x.toNatClampNeg = i := by rw [t_nat]; omega
    rw [x9_walks_27_s]
    simp only [Ok_pif, Ok_nam]
    rw [t_le, show (2 : Int32).toInt = 2 from rfl]
    refine ⟨fun q => hk t hF (by rw [show 2 = i by omega]; exact hT), fun q => Ok.call (r_place (by omega) (by omega) (by omega) (by omega) (by omega) (by omega) (by omega) (by omega)) (fun p u hu => ?_)⟩
    obtain ⟨u1, u2⟩ := hu
    have u1 : u = t := u1
    have u2 : p.toInt = _ := u2
    subst u1
    obtain ⟨N, eN⟩ : ∃ N, N = plA A B C i := ⟨_, rfl⟩
    have hp : p.toInt = N := by rw [u2, eN]; unfold plA; omega
    have pn : p.toNatClampNeg = N := by rw [t_nat]; omega
    have N1024 : N < 1024 := by rw [eN]; unfold plA; omega
    have eN1 : plA A B C (i + 1) = N + 1 := by rw [eN]; unfold plA; omega
    rw [← eN] at hT
    have e0 : gF u 0 = gF st0 0 := (hF.2 0 (by decide)).1
    have hF2 : Fr [] [57, 58] st0 (sF (sF u 57 (upd (gF u 57) N 0)) 58 (upd (gF (sF u 57 (upd (gF u 57) N 0)) 58) N 0)) := (hF.sF (by decide)).sF (by decide)
    have tb0 : TbE st0 N (sF (sF u 57 (upd (gF u 57) N 0)) 58 (upd (gF (sF u 57 (upd (gF u 57) N 0)) 58) N 0)) := fun a' b' c' d' x1 x2 x3 x4 x5 => by
      show (upd (gF u 57) N 0 (plA a' b' c' d')).toInt = _ ∧ (upd (gF u 58) N 0 (plA a' b' c' d')).toInt = _
      rw [upd_ne (by omega), upd_ne (by omega)]
      exact hT a' b' c' d' x1 x2 x3 x4 x5
    have f57 : gF (sF (sF u 57 (upd (gF u 57) N 0)) 58 (upd (gF (sF u 57 (upd (gF u 57) N 0)) 58) N 0)) 57 N = 0 := by
      show upd (gF u 57) N 0 N = 0
      rw [upd_eq rfl]
    have f58 : gF (sF (sF u 57 (upd (gF u 57) N 0)) 58 (upd (gF (sF u 57 (upd (gF u 57) N 0)) 58) N 0)) 58 N = 0 := by
      show upd (gF u 58) N 0 N = 0
      rw [upd_eq rfl]
    have f0 : gF (sF (sF u 57 (upd (gF u 57) N 0)) 58 (upd (gF (sF u 57 (upd (gF u 57) N 0)) 58) N 0)) 0 = gF st0 0 := e0
    simp only [Ok_gd, Ok_nam, Ok_pif, t_in, pn, an, bn, cn]
    generalize sF (sF u 57 (upd (gF u 57) N 0)) 58 (upd (gF (sF u 57 (upd (gF u 57) N 0)) 58) N 0) = v at *
    rw [f0]
    have nxt : ¬ tl3 st0 A B C → Ok (x9_walks_27 k2 k10 k18 z a b c (x + 1) v) P := fun hno => ih (i + 1) (x + 1) v (by rw [e, hx]; rfl) (by omega) (by omega) hF2 (by
      rw [eN1]
      intro a' b' c' d' x1 x2 x3 x4 x5
      by_cases q2 : plA a' b' c' d' < N
      · exact tb0 a' b' c' d' x1 x2 x3 x4 q2
      · have e2 : plA a' b' c' d' = plA A B C i := by omega
        obtain ⟨w1, w2, w3, w4⟩ := plA_inj x2 x3 x4 b8 c8 (by omega) e2
        rw [w1, w2, w3, w4, ← eN, f57, f58]
        unfold whyE byE
        rw [pif_neg hno, pif_neg hno]
        exact ⟨rfl, rfl⟩)
    refine ⟨by omega, by omega, by omega, fun t1 => nxt (fun w => w.1.2 t1), fun t1 => ⟨by omega, fun t2 => nxt (fun w => w.2.1.2 t2), fun t2 => ⟨by omega, fun t3 => nxt (fun w => w.2.2.2 t3), fun t3 => ?_⟩⟩⟩
    have hpl : plA a.toNatClampNeg b.toNatClampNeg c.toNatClampNeg x.toNatClampNeg = N := by rw [an, bn, cn, xn, eN]
    refine r_tb92 st0 hM P k2 k10 k18 (x9_walks_27 k2 k10 k18 z) a b c x p ⟨by omega, by omega, by rw [an]; exact t1⟩ ⟨by omega, by omega, by rw [bn]; exact t2⟩ ⟨by omega, by omega, by rw [cn]; exact t3⟩ (by omega) (by omega) (by rw [hpl]; exact hp) (fun w hw hw2 => ih (i + 1) (x + 1) w (by rw [e, hx]; rfl) (by omega) (by omega) hw (by rw [eN1, ← hpl]; exact hw2)) fuel 1 1 v rfl (by omega) (by omega) (by unfold fuel; omega) hF2 (by rw [hpl]; exact tb0) (Or.inl (by rw [hpl]; exact ⟨f57, f58, fun k k1 k2 => by omega⟩))
theorem r_tb18 (st0 : RS) (hM : MkI st0) (P : RS → Prop) (k2 : Int32 → RS → Option RS) (k10 : Int32 → Int32 → RS → Option RS) (a b : Int32) (A B : Nat) (hA : a.toInt = A) (hB : b.toInt = B) (a8 : A < 8) (b8 : B < 8)
    (hk : ∀ t, Fr [] [57, 58] st0 t → TbE st0 (plA A B 8 0) t → Ok (k10 a (b + 1) t) P) : ∀ (z i : Nat) (x : Int32) (t : RS), x.toInt = i → i ≤ 8 → 8 - i < z → Fr [] [57, 58] st0 t → TbE st0 (plA A B i 0) t → Ok (x9_walks_18 k2 k10 z a b x t) P := by
  intro z
  induction z with
  | zero => intro i x t h1 h2 h3; omega
  | succ z ih =>
    intro i x t hx hi hz hF hT
    have e := inc (x := x) (by omega) (by omega)
    rw [x9_walks_18_s]
    simp only [Ok_pif, Ok_nam]
    rw [t_le, show (8 : Int32).toInt = 8 from rfl]
    exact ⟨fun q => hk t hF (by rw [show 8 = i by omega]; exact hT), fun q => r_tb27 st0 hM P k2 k10 (x9_walks_18 k2 k10 z) a b x A B i hA hB hx a8 b8 (by omega) (fun w hw hw2 => ih (i + 1) (x + 1) w (by rw [e, hx]; rfl) (by omega) (by omega) hw (by rw [show plA A B (i + 1) 0 = plA A B i 2 by unfold plA; omega]; exact hw2)) fuel 0 0 t rfl (by omega) (by unfold fuel; omega) hF hT⟩
theorem r_tb10 (st0 : RS) (hM : MkI st0) (P : RS → Prop) (k2 : Int32 → RS → Option RS) (a : Int32) (A : Nat) (hA : a.toInt = A) (a8 : A < 8)
    (hk : ∀ t, Fr [] [57, 58] st0 t → TbE st0 (plA A 8 0 0) t → Ok (k2 (a + 1) t) P) : ∀ (z i : Nat) (x : Int32) (t : RS), x.toInt = i → i ≤ 8 → 8 - i < z → Fr [] [57, 58] st0 t → TbE st0 (plA A i 0 0) t → Ok (x9_walks_10 k2 z a x t) P := by
  intro z
  induction z with
  | zero => intro i x t h1 h2 h3; omega
  | succ z ih =>
    intro i x t hx hi hz hF hT
    have e := inc (x := x) (by omega) (by omega)
    rw [x9_walks_10_s]
    simp only [Ok_pif, Ok_nam]
    rw [t_le, show (8 : Int32).toInt = 8 from rfl]
    exact ⟨fun q => hk t hF (by rw [show 8 = i by omega]; exact hT), fun q => r_tb18 st0 hM P k2 (x9_walks_10 k2 z) a x A i hA hx a8 (by omega) (fun w hw hw2 => ih (i + 1) (x + 1) w (by rw [e, hx]; rfl) (by omega) (by omega) hw (by rw [show plA A (i + 1) 0 0 = plA A i 8 0 by unfold plA; omega]; exact hw2)) fuel 0 0 t rfl (by omega) (by unfold fuel; omega) hF hT⟩
theorem r_tb2 (st0 : RS) (hM : MkI st0) : ∀ (z i : Nat) (x : Int32) (t : RS), x.toInt = i → i ≤ 8 → 8 - i < z → Fr [] [57, 58] st0 t → TbE st0 (plA i 0 0 0) t → Ok (x9_walks_2 z x t) (fun t => Fr [] [57, 58] st0 t ∧ TbE st0 1024 t) := by
  intro z
  induction z with
  | zero => intro i x t h1 h2 h3; omega
  | succ z ih =>
    intro i x t hx hi hz hF hT
    have e := inc (x := x) (by omega) (by omega)
    rw [x9_walks_2_s]
    simp only [Ok_pif, Ok_some]
    rw [t_le, show (8 : Int32).toInt = 8 from rfl]
    exact ⟨fun q => ⟨hF, by have e8 : plA i 0 0 0 = 1024 := by rw [show i = 8 by omega]; rfl
                            rw [e8] at hT; exact hT⟩, fun q => r_tb10 st0 hM _ (x9_walks_2 z) x i hx (by omega) (fun w hw hw2 => ih (i + 1) (x + 1) w (by rw [e, hx]; rfl) (by omega) (by omega) hw (by rw [show plA (i + 1) 0 0 0 = plA i 8 0 0 by unfold plA; omega]; exact hw2)) fuel 0 0 t rfl (by omega) (by unfold fuel; omega) hF hT⟩
theorem r_tb {st : RS} (hM : MkI st) : Ok (x9_walks st) (fun t => Fr [] [57, 58] st t ∧ TbE st 1024 t) := r_tb2 st hM fuel 0 0 st rfl (by omega) (by unfold fuel; omega) Fr.rf (fun a b c d _ _ _ _ h => absurd h (by show ¬ plA a b c d < 0; omega))
/-- walk: the reference -/
theorem r_walk2 {a b c : Int32} {st : RS} (hI : RI st) : Ok (x9_walk a b c st) (fun q => pif (mkN st a ∧ mkN st b ∧ mkN st c) (∃ (t : RS) (v : Int32), q.2 = sI t 59 v ∧ Kp st t ∧ KeR st t ∧ q.1.toInt = whyE st a.toNatClampNeg b.toNatClampNeg c.toNatClampNeg False ∧ v.toInt = byE st a.toNatClampNeg b.toNatClampNeg c.toNatClampNeg False) (q = (-1, st))) := by
  unfold x9_walk
  refine Ok.bp r_isMake (fun ha => ?_) (fun ha => ?_)
  case refine_2 => rw [pif_pos rfl, Ok_some, pif_neg (fun w => ha w.1)]
  rw [pif_neg (by decide)]
  refine Ok.bp r_isMake (fun hb => ?_) (fun hb => ?_)
  case refine_2 => rw [pif_pos rfl, Ok_some, pif_neg (fun w => hb w.2.1)]
  rw [pif_neg (by decide)]
  refine Ok.bp r_isMake (fun hc => ?_) (fun hc => ?_)
  case refine_2 => rw [pif_pos rfl, Ok_some, pif_neg (fun w => hc w.2.2)]
  rw [pif_neg (by decide)]
  have hall : mkN st a ∧ mkN st b ∧ mkN st c := ⟨ha, hb, hc⟩
  simp only [pif_pos hall]
  have a1 := ha.1
  have a2 := ha.2.1
  have b1 := hb.1
  have b2 := hb.2.1
  have c1 := hc.1
  have c2 := hc.2.1
  refine Ok.callv (r_tb hI.1) (fun t ht => ?_)
  obtain ⟨ht, hT⟩ := ht
  refine Ok.call (r_place a1 a2 b1 b2 c1 c2 (by decide) (by decide)) (fun p u hu => ?_)
  obtain ⟨u1, u2⟩ := hu
  have u1 : u = t := u1
  have u2 : p.toInt = _ := u2
  have z0 : (0 : Int32).toInt = 0 := rfl
  subst u1
  have pn : p.toNatClampNeg = plA a.toNatClampNeg b.toNatClampNeg c.toNatClampNeg 0 := by unfold plA; rw [t_nat, t_nat, t_nat, t_nat]; omega
  simp only [Ok_gd, Ok_nam, t_in]
  refine ⟨by omega, Ok.call (r_place a1 a2 b1 b2 c1 c2 (by decide) (by decide)) (fun p' u' hu' => ?_)⟩
  obtain ⟨u1', u2'⟩ := hu'
  have u1' : u' = _ := u1'
  have u2' : p'.toInt = _ := u2'
  have pn' : p'.toNatClampNeg = plA a.toNatClampNeg b.toNatClampNeg c.toNatClampNeg 0 := by unfold plA; rw [t_nat, t_nat, t_nat, t_nat]; omega
  rw [u1']
  simp only [Ok_gd, Ok_some, t_in]
  have hent := hT a.toNatClampNeg b.toNatClampNeg c.toNatClampNeg 0 (by rw [t_nat]; omega) (by rw [t_nat]; omega) (by rw [t_nat]; omega) (by omega) (by unfold plA; rw [t_nat, t_nat, t_nat]; omega)
  have e01 : ((0 : Nat) = 1) = False := propext ⟨fun h => absurd h (by decide), fun h => h.elim⟩
  rw [e01] at hent
  refine ⟨by omega, u, _, rfl, ⟨ht.d (by decide) (by decide), hI.2.1.fr (ht.2 29 (by decide)).1⟩, ⟨(ht.2 28 (by decide)).1, (ht.2 29 (by decide)).1, (ht.1 59 (by simp)).1⟩, ?_, ?_⟩
  · show (gF u 57 p'.toNatClampNeg).toInt = _
    rw [pn']; exact hent.1
  · show (gF u 58 p.toNatClampNeg).toInt = _
    rw [pn]; exact hent.2
