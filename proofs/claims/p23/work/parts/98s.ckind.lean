/-! class: the kind -/
def MsI (T : Nat → Prop) (g : CS) : Prop := qk g 44 = 24 ∧ ql g 44 = 8 ∧ 106 ≤ qn g ∧ ∀ j, j < 8 → (T j ↔ qP g 44 j ≠ none)
theorem MsI.fr {T : Nat → Prop} {F : Nat} {a b : Int} {g t : CS} (h : MsI T g) (hT : Tf F a b g t) (hF : F = 46 ∨ 106 ≤ F) : MsI T t := by
  obtain ⟨h1, h2, h3, h4⟩ := h
  have h5 := hT.1.1
  exact ⟨by rw [(hT.2.1 44 (by omega)).1]; exact h1, by rw [(hT.2.1 44 (by omega)).2]; exact h2, by omega, fun j hj => by rw [hT.2.2.2.1 44 (by omega) (by decide) (by omega)]; exact h4 j hj⟩
theorem w_makeOf {T : Nat → Prop} {x : Int32} {j : Nat} {g : CS} (h : MsI T g) (hx : x.toInt = j) (hj : j < 8) : Ok (fX8_makeOf (some 44) x g) (fun q => q.2 = g ∧ (q.1 = none ↔ ¬ T j)) := by
  obtain ⟨h1, h2, h3, h4⟩ := h
  have xn : x.toNatClampNeg = j := by rw [t_nat]; omega
  unfold fX8_makeOf
  simp only [Ok_pif, Ok_some, Ok_gd, Ok_ono, xn]
  rw [t_lt, show (0 : Int32).toInt = 0 from rfl]
  refine ⟨fun c => by omega, fun c => ⟨44, rfl, h1, fun d => ?_, fun d => ⟨by rw [t_in, h2]; omega, trivial, ?_⟩⟩⟩
  · rw [t_le, e_nI (by rw [h2]; decide), h2] at d
    omega
  · rw [h4 j hj]
    exact ⟨fun q r => r q, fun q => Classical.byContradiction q⟩
/-- what takes the kind -/
noncomputable def kcF (f : Nat → Int32) (n m : Nat) (T : Nat → Prop) (p : Nat) : Option ((Nat × Int) × Nat) :=
  nam (rn blk f n p) (fun k0 => nam (rn ltr f n k0) (fun e => pif (kdW f k0 e = 0) none (pif (kdW f k0 e = 6) ((rcF f n m T e).bind (fun y => pif (y.2 < n ∧ ltr (f y.2)) none (some ((6, y.1), y.2)))) (some ((kdW f k0 e, -1), e)))))
theorem kdF_kc {f : Nat → Int32} {n m p : Nat} {T : Nat → Prop} : kdF f n m T p = (kcF f n m T p).bind (fun y => (gdF f n y.1.1 y.2).map (fun z => ((y.1.1, z.1.1, y.1.2, z.1.2.1, z.1.2.2), z.2))) := by
  unfold kdF kcF kkF
  simp only [nam_x]
  generalize rn blk f n p = k0
  generalize rn ltr f n k0 = e
  by_cases c0 : kdW f k0 e = 0
  · rw [pif_pos c0, pif_pos c0]; rfl
  · rw [pif_neg c0, pif_neg c0]
    by_cases c6 : kdW f k0 e = 6
    · rw [pif_pos c6, pif_pos c6, c6]
      cases hr : rcF f n m T e with
      | none => rfl
      | some y =>
        show (gdF f n 6 y.2).map _ = (pif (y.2 < n ∧ ltr (f y.2)) none (some (((6 : Nat), y.1), y.2))).bind _
        by_cases cl : y.2 < n ∧ ltr (f y.2)
        · rw [pif_pos cl]
          have : gdF f n 6 y.2 = none := by unfold gdF gpF; rw [pif_pos cl]; rfl
          rw [this]; rfl
        · rw [pif_neg cl]; rfl
    · rw [pif_neg c6, pif_neg c6]; rfl
/-- the digit of a rec -/
def RcP (f : Nat → Int32) (n m : Nat) (T : Nat → Prop) (F p : Nat) (g : CS) (q : Int32 × CS) : Prop := Rs ((rcF f n m T p).bind (fun y => pif (y.2 < n ∧ ltr (f y.2)) none (some y))) (fun z => q.1 = 1 ∧ Tf F 0 0 g q.2 ∧ Tr f n z.2 q.2 ∧ (z.2 ≤ n ∧ ¬ (z.2 < n ∧ ltr (f z.2))) ∧ (qI q.2 F 3).toInt = z.1 ∧ (∀ j, j ≠ 3 → qI q.2 F j = qI g F j) ∧ qJ q.2 F = qJ g F ∧ qP q.2 F = qP g F) (Bd f n F 0 0 g q)
theorem w_takeRec {f : Nat → Int32} {n m F p : Nat} {T : Nat → Prop} {pm : Int32} {g : CS} (hm : pm.toInt = m) (hm8 : m < 8) (hp : p ≤ n) (h : Tr f n p g) (hMs : MsI T g) (hO : FO g F) : Ok (fX6_takeRec 45 (some F) pm g) (RcP f n m T F p g) := by
  have hn4 := h.1.n400
  have hF106 := hO.2.1
  have rno : ∀ {o : Option (Int × Nat)} {q : Int32 × CS}, o = none → Bd f n F 0 0 g q → Rs (o.bind (fun y => pif (y.2 < n ∧ ltr (f y.2)) none (some y))) (fun z => q.1 = 1 ∧ Tf F 0 0 g q.2 ∧ Tr f n z.2 q.2 ∧ (z.2 ≤ n ∧ ¬ (z.2 < n ∧ ltr (f z.2))) ∧ (qI q.2 F 3).toInt = z.1 ∧ (∀ j, j ≠ 3 → qI q.2 F j = qI g F j) ∧ qJ q.2 F = qJ g F ∧ qP q.2 F = qP g F) (Bd f n F 0 0 g q) := fun ho hb => Rs.n (by rw [ho]; rfl) hb
  unfold fX6_takeRec fX6_takeRec_71 fX6_takeRec_118
  rw [Ok_gd]
  refine ⟨h.1.1.1, Ok.bc (w_isDigit h.1 h.2.1) (fun hd => ?_) (fun hd => ?_)⟩
  · rw [Ok_pif]
    refine ⟨fun q => absurd q (by decide), fun _ => (w_badN h.1 Tf.rf (by decide)).mono (fun q hq => rno ?_ hq)⟩
    unfold rcF
    rw [nam_x, pif_neg (fun q => q.1.2.2 hd)]
  rw [Ok_pif]
  refine ⟨fun _ => Ok.callv (w_skip h hp) (fun u hu => ?_), fun q => absurd rfl q⟩
  obtain ⟨u1, u2⟩ := hu
  have hw := rn_le blk f hp
  have hrc : rcF f n m T p = pif ((rn blk f n p < n ∧ dgt (f (rn blk f n p)) ∧ ¬ (p < n ∧ dgt (f p))) ∧ ((f (rn blk f n p)).toInt - 48 < m ∧ T ((f (rn blk f n p)).toInt - 48).toNat) ∧ ¬ (rn blk f n p + 1 < n ∧ dgt (f (rn blk f n p + 1)))) (some ((f (rn blk f n p)).toInt - 48, rn blk f n p + 1)) none := rfl
  unfold RcP
  rw [hrc]
  generalize rn blk f n p = d at *
  have keep := hO.s h.1 u2
  have hOu := hO.fr u2
  have hMu := hMs.fr u2 (Or.inl rfl)
  have e3 := inc (x := qI u 45 3) (by have := u1.2.1; omega) (by have := u1.2.1; omega)
  have hnl := hOu.nlb u1.1
  refine Ok.bc (w_isDigit u1.1 u1.2.1) (fun hg => ?_) (fun hg => ?_)
  · rw [Ok_pif]
    refine ⟨fun q => absurd q (by decide), fun _ => Ok.call (w_digitAt u1.1 u1.2.1) (fun r t ht => ?_)⟩
    obtain ⟨t1, t2⟩ := ht
    have t1 : t = u := t1
    subst t1
    have t3 : r.toInt = (f d).toInt - 48 := by
      rcases t2 with q | q
      · exact q.2
      · exact absurd hg q.1
    have hdg := hg.2
    unfold dgt at hdg
    rw [Ok_pif, t_le, hm, t3]
    refine ⟨fun c => ?_, fun c => ?_⟩
    · rw [Ok_gd]
      exact ⟨u1.1.1.1, (w_badN u1.1 u2.up (by decide)).mono (fun q hq => rno (pif_neg (fun r => by have := r.2.1.1; omega)) hq)⟩
    obtain ⟨jd, hjd⟩ : ∃ jd : Nat, (f d).toInt - 48 = jd := ⟨((f d).toInt - 48).toNat, by omega⟩
    rw [hjd] at t3 c
    rw [u1.1.1.2.2.1]
    refine Ok.call (w_makeOf hMu t3 (by omega)) (fun o v hv => ?_)
    obtain ⟨v1, v2⟩ := hv
    have v1 : v = t := v1
    have v2 : o = none ↔ ¬ T jd := v2
    subst v1
    rw [Ok_pif]
    refine ⟨fun cn => ?_, fun cn => ?_⟩
    · rw [Ok_gd]
      exact ⟨u1.1.1.1, (w_badN u1.1 u2.up (by decide)).mono (fun q hq => rno (pif_neg (fun r => v2.mp cn (by have := r.2.1.2; rw [hjd] at this; exact this))) hq)⟩
    have hTj : T jd := Classical.byContradiction (fun q => cn (v2.mpr q))
    simp only [Ok_ono, Ok_gd, Ok_nam]
    have f1 : Tf F 0 0 v (wI v F 3 r) := Tf.wFI (by omega)
    have f2 : TrI f n (wI v F 3 r) := u1.1.fr f1 (u1.1.2.2.2.2.2.i (by omega) hnl) (Or.inr hF106)
    have e45 : qI (wI v F 3 r) 45 = qI v 45 := qI_wo (by omega)
    have f3 : Tr f n d (wI v F 3 r) := ⟨f2, by rw [e45]; exact u1.2.1, by rw [e45]; exact u1.2.2⟩
    obtain ⟨g1, g2⟩ := f3.go (d := 1) (x := qI (wI v F 3 r) 45 3 + 1) (by rw [e45, e3, u1.2.1]; rfl)
    have eF : qI (wI (wI v F 3 r) 45 3 (qI (wI v F 3 r) 45 3 + 1)) F = qI (wI v F 3 r) F := qI_wo (by omega)
    have eJ : qJ (wI (wI v F 3 r) 45 3 (qI (wI v F 3 r) 45 3 + 1)) F = qJ v F := rfl
    have eP : qP (wI (wI v F 3 r) 45 3 (qI (wI v F 3 r) 45 3 + 1)) F = qP v F := rfl
    have hTT : Tf F 0 0 g (wI (wI v F 3 r) 45 3 (qI (wI v F 3 r) 45 3 + 1)) := (((u2.up (F := F)).tr f1).tr g2.up).le (by omega) (by omega)
    refine ⟨F, rfl, hOu.1, ?_⟩
    generalize wI (wI v F 3 r) 45 3 (qI (wI v F 3 r) 45 3 + 1) = x at *
    have bad : ∀ {P : Prop}, (P ↔ False) → Ok (bnd (fX6_refuse 45 1 (qI x 45 3) x) (fun r_4 st_2 => pif (r_4 = 0) (some ((0 : Int32), st_2)) (some ((1 : Int32), st_2)))) (Bd f n F 0 0 g) := fun _ => Ok.call (w_bad g1.1 hTT (by decide)) (fun r' t' ht' => by
      have hr : r' = 0 := ht'.1
      rw [hr, Ok_pif, Ok_some]
      exact ⟨fun _ => ⟨rfl, ht'.2⟩, fun q => absurd rfl q⟩)
    refine Ok.bc (w_isDigit g1.1 g1.2.1) (fun h1 => ?_) (fun h1 => ?_)
    · rw [Ok_pif]
      refine ⟨fun q => absurd q (by decide), fun _ => ?_⟩
      rw [Ok_gd]
      exact ⟨g1.1.1.1, (bad (P := False) Iff.rfl).mono (fun q hq => rno (pif_neg (fun r => r.2.2 h1)) hq)⟩
    · rw [Ok_pif]
      refine ⟨fun _ => ?_, fun q => absurd rfl q⟩
      have hsome : pif ((d < n ∧ dgt (f d) ∧ ¬ (p < n ∧ dgt (f p))) ∧ ((f d).toInt - 48 < m ∧ T ((f d).toInt - 48).toNat) ∧ ¬ (d + 1 < n ∧ dgt (f (d + 1)))) (some ((f d).toInt - 48, d + 1)) none = some ((f d).toInt - 48, d + 1) := pif_pos ⟨⟨hg.1, hg.2, hd⟩, ⟨by omega, by rw [hjd]; exact hTj⟩, h1⟩
      rw [hsome]
      refine Ok.bc (w_isLetter g1.1 g1.2.1) (fun h2 => ?_) (fun h2 => ?_)
      · rw [Ok_pif]
        refine ⟨fun q => absurd q (by decide), fun _ => ?_⟩
        rw [Ok_gd]
        exact ⟨g1.1.1.1, (bad (P := False) Iff.rfl).mono (fun q hq => Rs.n (by show pif (d + 1 < n ∧ ltr (f (d + 1))) none _ = none; rw [pif_pos h2]) hq)⟩
      · rw [Ok_pif]
        refine ⟨fun _ => ?_, fun q => absurd rfl q⟩
        rw [Ok_some]
        refine Rs.s (x := ((f d).toInt - 48, d + 1)) (by show pif (d + 1 < n ∧ ltr (f (d + 1))) none _ = _; rw [pif_neg h2]) ⟨rfl, hTT, g1, ⟨by have := hg.1; show d + 1 ≤ n; omega, h2⟩, ?_, fun j hj => ?_, by show qJ x F = _; rw [eJ]; exact keep.2.1, by show qP x F = _; rw [eP]; exact keep.2.2⟩
        · show (qI x F 3).toInt = _
          rw [eF, qI_wI, if_pos rfl, if_pos rfl, hjd]; exact t3
        · show qI x F j = _
          rw [eF, qI_wI, if_pos rfl, if_neg hj, keep.1]
  · rw [Ok_pif]
    refine ⟨fun _ => (w_badN u1.1 u2.up (by decide)).mono (fun q hq => rno (pif_neg (fun r => hg ⟨r.1.1, r.1.2.1⟩)) hq), fun q => absurd rfl q⟩
/-- the kind -/
def KcP (f : Nat → Int32) (n m : Nat) (T : Nat → Prop) (F p : Nat) (g : CS) (q : Int32 × CS) : Prop := Rs (kcF f n m T p) (fun z => q.1 = 1 ∧ Tf F 2 4 g q.2 ∧ Tr f n z.2 q.2 ∧ (z.2 ≤ n ∧ ¬ (z.2 < n ∧ ltr (f z.2))) ∧ (qI q.2 F 1).toInt = z.1.1 ∧ (qI q.2 F 3).toInt = z.1.2 ∧ (∀ j, j ≠ 1 → j ≠ 3 → qI q.2 F j = qI g F j) ∧ qJ q.2 F = qJ g F ∧ qP q.2 F = qP g F) (Bd f n F 2 4 g q)
theorem w_takeKind {f : Nat → Int32} {n m F p : Nat} {T : Nat → Prop} {pm : Int32} {g : CS} (hm : pm.toInt = m) (hm8 : m < 8) (hp : p ≤ n) (h : Tr f n p g) (hMs : MsI T g) (hO : FO g F) (h3 : (qI g F 3).toInt = -1) : Ok (fX6_takeKind 45 (some F) pm g) (KcP f n m T F p g) := by
  have hn4 := h.1.n400
  have hF106 := hO.2.1
  unfold fX6_takeKind fX6_takeKind_4 fX6_takeKind_14
  rw [Ok_gd]
  refine ⟨h.1.1.1, Ok.callv (w_skip h hp) (fun u hu => ?_)⟩
  obtain ⟨u1, u2⟩ := hu
  have hw := rn_le blk f hp
  have hkc : kcF f n m T p = pif (kdW f (rn blk f n p) (rn ltr f n (rn blk f n p)) = 0) none (pif (kdW f (rn blk f n p) (rn ltr f n (rn blk f n p)) = 6) ((rcF f n m T (rn ltr f n (rn blk f n p))).bind (fun y => pif (y.2 < n ∧ ltr (f y.2)) none (some ((6, y.1), y.2)))) (some ((kdW f (rn blk f n p) (rn ltr f n (rn blk f n p)), -1), rn ltr f n (rn blk f n p)))) := rfl
  unfold KcP
  rw [hkc]
  generalize rn blk f n p = w at *
  simp only [Ok_gd, Ok_nam]
  refine ⟨u1.1.1.1, Ok.call (w_takeWord u1 hw) (fun r t ht => ?_)⟩
  obtain ⟨s, e1, e2, e3, e4, e5⟩ := ht
  have e1 : r = some s := e1
  have he := rn_le ltr f hw
  have hend := (rn_run ltr f n w).2.2
  generalize rn ltr f n w = e at *
  have hT : Tf 46 2 4 g t := (u2.tr e4).le (by omega) (by omega)
  have hOt := hO.fr hT
  have keep := hO.s h.1 hT
  have hMt := hMs.fr hT (Or.inl rfl)
  have hnl := hOt.nlb e3.1
  rw [e1]
  refine Ok.call (w_kindOf e5 e3.1.2.2.2.2.1 e3.1.2.2.2.2.2) (fun k t'' hk => ?_)
  cases hk
  have hk6 := kdW_r f w e
  generalize kdW f w e = kd at *
  have hkt : (Int32.ofNat kd).toInt = kd := t_nI (by omega)
  generalize Int32.ofNat kd = kx at *
  unfold fX6_takeKind_17 fX6_takeKind_33 fX6_takeKind_49
  simp only [Ok_ono, Ok_gd, Ok_nam]
  have f1 : Tf F 0 0 t (wI t F 1 kx) := Tf.wFI (by omega)
  have f2 : TrI f n (wI t F 1 kx) := e3.1.fr f1 (e3.1.2.2.2.2.2.i (by omega) hnl) (Or.inr hF106)
  have e45 : qI (wI t F 1 kx) 45 = qI t 45 := qI_wo (by omega)
  have f3 : Tr f n e (wI t F 1 kx) := ⟨f2, by rw [e45]; exact e3.2.1, by rw [e45]; exact e3.2.2⟩
  have eF : ∀ j, qI (wI t F 1 kx) F j = if j = 1 then kx else qI t F j := fun j => by rw [qI_wI, if_pos rfl]
  have hTT : Tf F 2 4 g (wI t F 1 kx) := ((hT.up (F := F)).tr f1).le (by omega) (by omega)
  have hOx := hO.fr hTT
  have hMx := hMs.fr hTT (Or.inr hF106)
  have eJ : qJ (wI t F 1 kx) F = qJ t F := rfl
  have eP : qP (wI t F 1 kx) F = qP t F := rfl
  refine ⟨F, rfl, hOt.1, F, rfl, hOx.1, ?_⟩
  generalize wI t F 1 kx = x at *
  rw [Ok_pif, eF 1, if_pos rfl, t_eq, hkt, show (0 : Int32).toInt = 0 from rfl]
  refine ⟨fun c0 => ?_, fun c0 => ?_⟩
  · rw [Ok_gd]
    exact ⟨f2.1.1, (w_badN f2 hTT (by decide)).mono (fun q hq => Rs.n (by rw [pif_pos (show kd = 0 by omega)]) hq)⟩
  rw [pif_neg (show ¬ kd = 0 by omega), Ok_pif, t_eq, hkt, show (6 : Int32).toInt = 6 from rfl]
  refine ⟨fun c6 => ?_, fun c6 => ?_⟩
  · have kd6 : kd = 6 := by omega
    rw [pif_pos kd6, Ok_gd]
    refine ⟨f2.1.1, Ok.call (w_takeRec hm hm8 he f3 hMx hOx) (fun r' y hy => ?_)⟩
    unfold RcP at hy
    cases hr : rcF f n m T e with
    | none =>
      rw [hr] at hy
      have hb := hy.2 rfl
      have hr0 : r' = 0 := hb.1
      rw [hr0, Ok_pif, Ok_some]
      exact ⟨fun _ => Rs.n rfl ⟨rfl, (hTT.tr hb.2.1).le (by omega) (by omega), hb.2.2⟩, fun q => absurd rfl q⟩
    | some v =>
      rw [hr] at hy
      by_cases cl : v.2 < n ∧ ltr (f v.2)
      · have hb := hy.2 (by show pif (v.2 < n ∧ ltr (f v.2)) none _ = none; rw [pif_pos cl])
        have hr0 : r' = 0 := hb.1
        rw [hr0, Ok_pif, Ok_some]
        exact ⟨fun _ => Rs.n (by show pif (v.2 < n ∧ ltr (f v.2)) none _ = none; rw [pif_pos cl]) ⟨rfl, (hTT.tr hb.2.1).le (by omega) (by omega), hb.2.2⟩, fun q => absurd rfl q⟩
      · have hb := hy.1 v (by show pif (v.2 < n ∧ ltr (f v.2)) none _ = _; rw [pif_neg cl])
        obtain ⟨b1, b2, b3, b4, b5, b6, b7, b8⟩ := hb
        have hr1 : r' = 1 := b1
        rw [hr1, Ok_pif, Ok_some, Ok_some]
        refine ⟨fun q => absurd q (by decide), fun _ => Rs.s (x := ((6, v.1), v.2)) (by show pif (v.2 < n ∧ ltr (f v.2)) none _ = _; rw [pif_neg cl]) ⟨rfl, (hTT.tr b2).le (by omega) (by omega), b3, b4, ?_, b5, fun j j1 j3 => ?_, ?_, ?_⟩⟩
        · show (qI y F 1).toInt = 6
          rw [b6 1 (by decide), eF 1, if_pos rfl, hkt, kd6]; rfl
        · rw [b6 j j3, eF j, if_neg j1, keep.1]
        · rw [b7, eJ, keep.2.1]
        · rw [b8, eP, keep.2.2]
  · rw [pif_neg (show ¬ kd = 6 by omega), Ok_some]
    refine Rs.s (x := ((kd, -1), e)) rfl ⟨rfl, hTT, f3, ⟨he, hend⟩, ?_, ?_, fun j j1 j3 => ?_, ?_, ?_⟩
    · show (qI x F 1).toInt = _
      rw [eF 1, if_pos rfl, hkt]
    · show (qI x F 3).toInt = _
      rw [eF 3, if_neg (by decide), keep.1]; exact h3
    · show qI x F j = _
      rw [eF j, if_neg j1, keep.1]
    · show qJ x F = _
      rw [eJ, keep.2.1]
    · show qP x F = _
      rw [eP, keep.2.2]
