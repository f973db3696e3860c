/-! readers: how many makes a make reads without loss -/
noncomputable def rdC (r : RS) (m : Nat) : Nat → Nat
  | 0 => 0
  | i + 1 => rdC r m i + pif (tld r i ∧ ¬ wBrk r (i + 1) i m m False) 1 0
theorem rdC_le {r : RS} {m : Nat} : ∀ i, rdC r m i ≤ i := by
  intro i
  induction i with
  | zero => exact Nat.le_refl _
  | succ i ih =>
    show rdC r m i + pif (tld r i ∧ ¬ wBrk r (i + 1) i m m False) 1 0 ≤ i + 1
    by_cases c : tld r i ∧ ¬ wBrk r (i + 1) i m m False
    · rw [pif_pos c]; omega
    · rw [pif_neg c]; omega
theorem r_rd18 (r st : RS) (m : Int32) (m1 : 0 ≤ m.toInt) (m2 : m.toInt < 8) (hF : Fr [] [57, 58] r st) (hT : TbE r 1024 st) : ∀ (z i : Nat) (y x : Int32), x.toInt = i → i ≤ 8 → 8 - i < z → y.toInt = rdC r m.toNatClampNeg i → Ok (x9_readers_18 z m y x st) (fun q => q.2 = st ∧ q.1.toInt = rdC r m.toNatClampNeg 8) := by
  intro z
  induction z with
  | zero => intro i y x h1 h2 h3; omega
  | succ z ih =>
    intro i y x hx hi hz hy
    have e := inc (x := x) (by omega) (by omega)
    have hle := rdC_le (r := r) (m := m.toNatClampNeg) i
    have ey := inc (x := y) (by omega) (by omega)
    have xn : x.toNatClampNeg = i := by rw [t_nat]; omega
    have mn : (m.toNatClampNeg : Int) = m.toInt := by rw [t_nat]; omega
    have e0 : gF st 0 = gF r 0 := (hF.2 0 (by decide)).1
    have step : rdC r m.toNatClampNeg (i + 1) = rdC r m.toNatClampNeg i + pif (tld r i ∧ ¬ wBrk r (i + 1) i m.toNatClampNeg m.toNatClampNeg False) 1 0 := rfl
    rw [x9_readers_18_s]
    generalize x + 1 = x' at e ⊢
    generalize y + 1 = y' at ey ⊢
    simp only [Ok_pif, Ok_nam, Ok_some, Ok_gd, t_in, xn]
    rw [t_le, show (8 : Int32).toInt = 8 from rfl]
    refine ⟨fun q => ⟨trivial, by rw [hy, show i = 8 by omega]⟩, fun q => ⟨by omega, fun c0 => ih (i + 1) y x' (by omega) (by omega) (by omega) ?_, fun c0 => Ok.call (r_place (by omega) (by omega) m1 m2 m1 m2 (by decide) (by decide)) (fun p u hu => ?_)⟩⟩
    · rw [hy, step, pif_neg (fun w => w.1.2 (by rw [← e0]; exact c0))]; omega
    obtain ⟨u1, u2⟩ := hu
    have u1 : u = st := u1
    have u2 : p.toInt = _ := u2
    have z0 : (0 : Int32).toInt = 0 := rfl
    subst u1
    have pn : p.toNatClampNeg = plA i m.toNatClampNeg m.toNatClampNeg 0 := by
      have : (p.toNatClampNeg : Int) = p.toInt := by rw [t_nat]; omega
      unfold plA
      omega
    have hent := (hT i m.toNatClampNeg m.toNatClampNeg 0 (by omega) (by omega) (by omega) (by omega) (by unfold plA; omega)).1
    have e01 : ((0 : Nat) = 1) = False := propext ⟨fun h => absurd h (by decide), fun h => h.elim⟩
    rw [e01] at hent
    have ti : tld r i := ⟨by omega, by rw [← e0]; exact c0⟩
    have hz0 : gF u 57 (plA i m.toNatClampNeg m.toNatClampNeg 0) = 0 ↔ ¬ wBrk r (i + 1) i m.toNatClampNeg m.toNatClampNeg False := by
      rw [← whyE_brk, t_eq, hent, z0]
      omega
    simp only [Ok_pif, Ok_nam, Ok_gd, t_in, pn]
    refine ⟨by omega, fun c => ih (i + 1) y' x' (by omega) (by omega) (by omega) ?_, fun c => ih (i + 1) y x' (by omega) (by omega) (by omega) ?_⟩
    · rw [ey, hy, step, pif_pos ⟨ti, hz0.mp c⟩]; omega
    · rw [hy, step, pif_neg (fun w => c (hz0.mpr w.2))]; omega
theorem r_readers2 {m : Int32} {st : RS} (hI : RI st) : Ok (x9_readers m st) (fun q => pif (mkN st m) (Kp st q.2 ∧ KeR st q.2 ∧ q.1.toInt = rdC st m.toNatClampNeg 8) (q = (-1, st))) := by
  unfold x9_readers
  refine Ok.bp r_isMake (fun hm => ?_) (fun hm => ?_)
  case refine_2 => rw [pif_pos rfl, Ok_some, pif_neg hm]
  rw [pif_neg (by decide)]
  simp only [pif_pos hm]
  refine Ok.callv (r_tb hI.1) (fun t ht => ?_)
  obtain ⟨ht, hT⟩ := ht
  refine (r_rd18 st t m hm.1 hm.2.1 ht hT fuel 0 0 0 rfl (by omega) (by unfold fuel; omega) rfl).mono (fun q hq => ?_)
  rw [hq.1]
  exact ⟨⟨ht.d (by decide) (by decide), hI.2.1.fr (ht.2 29 (by decide)).1⟩, ⟨(ht.2 28 (by decide)).1, (ht.2 29 (by decide)).1, (ht.1 59 (by simp)).1⟩, hq.2⟩
theorem m_rd17 (r : RS) (m : Int32) (m1 : 0 ≤ m.toInt) (m2 : m.toInt < 8) (g0 : CS) (h0 : IW g0 r) : ∀ (z i : Nat) (y x : Int32) (g : CS), x.toInt = i → i ≤ 8 → 8 - i < z → Cf [71] g0 g → WkC g r → y.toInt = rdC r m.toNatClampNeg i → Ok (fX8_readers_17 32 z m y x g) (fun q => Cf [71] g0 q.2 ∧ WkC q.2 r ∧ q.1.toInt = rdC r m.toNatClampNeg 8) := by
  intro z
  induction z with
  | zero => intro i y x g h1 h2 h3; omega
  | succ z ih =>
    intro i y x g hx hi hz hF hW hy
    have hg := h0.f hF hW
    obtain ⟨⟨hC, hM, hT, hE⟩, -⟩ := id hg
    obtain ⟨k1, k2, -⟩ := hC.2.2.1
    have e := inc (x := x) (by omega) (by omega)
    have hle := rdC_le (r := r) (m := m.toNatClampNeg) i
    have ey := inc (x := y) (by omega) (by omega)
    have xn : x.toNatClampNeg = i := by rw [t_nat]; omega
    have step : rdC r m.toNatClampNeg (i + 1) = rdC r m.toNatClampNeg i + pif (tld r i ∧ ¬ wBrk r (i + 1) i m.toNatClampNeg m.toNatClampNeg False) 1 0 := rfl
    have ee : ((1 : Int32) = 0) = False := propext ⟨fun q => absurd q (by decide), fun q => q.elim⟩
    rw [fX8_readers_17_s]
    generalize x + 1 = x' at e ⊢
    generalize y + 1 = y' at ey ⊢
    rw [Ok_pif, t_le, hx, show (8 : Int32).toInt = 8 from rfl, Ok_some]
    refine ⟨fun q => ⟨hF, hW, by show y.toInt = _; rw [hy, show i = 8 by omega]⟩, fun q => ?_⟩
    rw [Ok_gd, hC.1.2.2.2.1, Ok_ono]
    refine ⟨hC.1.1, 44, rfl, ?_⟩
    simp only [Ok_gd, Ok_pif, Ok_nam, xn]
    refine ⟨k1, by rw [t_in, k2]; omega, fun c0 => ih (i + 1) y x' g (by omega) (by omega) (by omega) hF hW ?_, fun c0 => ?_⟩
    · rw [hy, step, pif_neg (fun w => w.1.2 ((hT i (by omega)).mp c0))]; omega
    have ti : tld r i := ⟨by omega, fun q => c0 ((hT i (by omega)).mpr q)⟩
    rw [hC.1.2.2.2.2.2.2.2.1, Ok_ono]
    refine ⟨70, rfl, ?_⟩
    rw [Ok_gd]
    have hb := m_breaks (r := r) 12 0 x m m 1 0 g hg (by omega) (by omega) m1 m2 m1 m2 (by omega) (by omega) rfl
    rw [xn, ee] at hb
    refine ⟨hC.2.2.2.2.2.1.1, Ok.call hb (fun v t ht => ?_)⟩
    obtain ⟨t1, t2, t3⟩ := ht
    have t1 : Cf [71] g t := t1
    rcases t3 with ⟨t3, t4⟩ | ⟨t3, t4⟩
    · have t3 : v = 1 := t3
      rw [t3, pif_neg (by decide), Ok_nam]
      exact ih (i + 1) y x' t (by omega) (by omega) (by omega) (hF.tr t1) t2 (by rw [hy, step, pif_neg (fun w => w.2 t4)]; omega)
    · have t3 : v = 0 := t3
      rw [t3, pif_pos rfl, Ok_nam, Ok_nam]
      exact ih (i + 1) y' x' t (by omega) (by omega) (by omega) (hF.tr t1) t2 (by rw [ey, hy, step, pif_pos ⟨ti, t4⟩]; omega)
theorem m_readers {m : Int32} {g : CS} {r : RS} (h : IW g r) : Ok (fX8_readers 32 m g) (fun q => pif (mkN r m) (Cf [71] g q.2 ∧ WkC q.2 r ∧ q.1.toInt = rdC r m.toNatClampNeg 8) (q = (-1, g))) := by
  have hC := h.1.1
  unfold fX8_readers
  rw [Ok_gd, hC.1.2.2.2.1]
  refine ⟨hC.1.1, Ok.same (w_mk h) (fun o ho => ?_)⟩
  by_cases c : o = none
  · rw [pif_pos c, Ok_some, pif_neg (fun w => ho.1.mpr w c)]
  · have hm := ho.1.mp c
    rw [pif_neg c]
    simp only [pif_pos hm]
    exact m_rd17 r m hm.1 hm.2.1 g h fuel 0 0 0 g rfl (by omega) (by unfold fuel; omega) Cf.rf h.2 rfl
