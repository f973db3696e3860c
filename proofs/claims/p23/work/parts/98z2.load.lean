/-! load with its answers -/
theorem c_load2 {r : Int32} {g : CS} (h : CI g) : Ok (fX8_load 32 r g) (fun q => pif ((0 ≤ r.toInt ∧ r.toInt < 4) ∧ (qI g 33 1).toInt ≤ 120) (∃ u, Sf g u ∧ q.2 = wI u 33 1 0 ∧ q.1 = qI g 33 1) (q = (-1, g))) := by
  have h0 := h.tape
  have hl := h0.2.2.2.2
  unfold fX8_load
  rw [Ok_gd]
  refine ⟨h.1.1, Ok.same (c_recordOf h) (fun o1 h1 => ?_)⟩
  simp only [Ok_pif, Ok_some]
  refine ⟨fun c => ?_, fun c1 => ?_⟩
  · rw [pif_neg (fun q => (h1.2.mpr q.1) c)]
    trivial
  have hr4 := h1.2.mp c1
  obtain ⟨row, e1⟩ := Option.ne_none_iff_exists'.mp c1
  subst e1
  have hrw := h1.1 row rfl
  rw [h.1.2.1, Ok_ono]
  refine ⟨33, rfl, ?_⟩
  rw [Ok_gd]
  refine ⟨h0.1, Ok.call (c_size h0) (fun q t ht => ?_)⟩
  have e1 : q = qI g 33 1 := congrArg Prod.fst ht
  have e2 : t = g := congrArg Prod.snd ht
  subst e2
  subst e1
  simp only [Ok_pif, Ok_some]
  rw [t_le, show (120 : Int32).toInt = 120 from rfl]
  refine ⟨fun c => ?_, fun c => ?_⟩
  case refine_2 =>
    rw [pif_neg (fun q => c q.2)]
    trivial
  refine Ok.mono (P := fun q => ∃ u, Sf t u ∧ q.2 = wI u 33 1 0 ∧ q.1 = qI t 33 1) ?_ (fun q hq => by rw [pif_pos ⟨hr4, c⟩]; exact hq)
  rw [h.1.2.1, Ok_ono]
  refine ⟨33, rfl, ?_⟩
  rw [Ok_gd]
  refine ⟨h0.1, Ok.call (c_size h0) (fun q2 t2 ht2 => ?_)⟩
  have e3 : q2 = qI t 33 1 := congrArg Prod.fst ht2
  have e4 : t2 = t := congrArg Prod.snd ht2
  subst e4
  subst e3
  rw [Ok_ono]
  refine ⟨row, rfl, ?_⟩
  rw [Ok_gd]
  have hn : (qI t2 33 1).toInt = (qI t2 33 1).toNatClampNeg := by rw [t_nat]; omega
  have hne : (33 : Nat) ≠ row ∧ (33 : Nat) ≠ row + 1 ∧ (33 : Nat) + 1 ≠ row ∨ (33 : Nat) = row := by
    rcases hrw with ⟨q | q | q | q, -⟩ | ⟨q | q, -⟩ <;> omega
  refine ⟨(h.rw hrw).1, Ok.callv (w_become (A := 0) (B := (qI t2 33 1).toNatClampNeg) (h.rw hrw) h0 hne rfl hn (by omega) (by omega)) (fun u hu => ?_)⟩
  have hSu := Sf.row h hrw hu.1 hu.2.1
  rw [hSu.1.1.2.1, Ok_ono]
  refine ⟨33, rfl, ?_⟩
  rw [Ok_gd]
  refine ⟨hSu.1.tape.1, Ok.call (c_cutT hSu.1) (fun q3 w hw => ?_)⟩
  have ew : w = wI u 33 1 0 := congrArg Prod.snd hw
  subst ew
  have hCw : CI (wI u 33 1 0) := hSu.1.tp (Cf.rf.wI (by simp)) (hSu.1.tape.wS (by decide) (by decide))
  refine Ok.call (c_size (hCw.rw hrw)) (fun q4 y hy => ?_)
  have ey : y = wI u 33 1 0 := congrArg Prod.snd hy
  have eq4 : q4 = qI (wI u 33 1 0) row 1 := congrArg Prod.fst hy
  rw [Ok_some, ey]
  refine ⟨u, hSu, rfl, ?_⟩
  show q4 = _
  have h3 := hu.2.2.1
  have hr33 : row ≠ 33 := by
    rcases hrw with ⟨q | q | q | q, -⟩ | ⟨q | q, -⟩ <;> omega
  rw [eq4, qI_wo hr33, t_eq, h3]
  omega
theorem r_load20b (st0 : RS) (hI : RI st0) (r : Int32) (hr : 0 ≤ r.toInt ∧ r.toInt < 4) (h120 : (gI st0 10).toInt ≤ 120) : ∀ (z i : Nat) (x : Int32) (t : RS), x.toInt = i → (i : Int) ≤ (gI st0 10).toInt → 120 - i < z → Fr [] [28] st0 t → Ok (x9_load_20 z r x t) (fun q => ∃ u, Kp st0 u ∧ q.2 = sI u 10 0 ∧ q.1 = gI st0 10) := by
  intro z
  induction z with
  | zero => intro i x t a b c; omega
  | succ z ih =>
    intro i x t hx hi hz hF
    have e := inc (x := x) (by omega) (by omega)
    have e10 : gI t 10 = gI st0 10 := (hF.1 10 (by decide)).1
    have e29 : gF t 29 = gF st0 29 := (hF.2 29 (by decide)).1
    have em : (120 * r).toInt = 120 * r.toInt := by
      rw [t_mul (by show -2147483648 ≤ 120 * r.toInt; omega) (by show 120 * r.toInt < 2147483648; omega)]
      rfl
    have ea : (120 * r + x).toInt = 120 * r.toInt + i := by rw [t_add (by omega) (by omega), em, hx]
    rw [x9_load_20_s]
    generalize x + 1 = x' at e ⊢
    simp only [Ok_pif, Ok_gd, Ok_nam, Ok_some, t_in, ea, e10]
    rw [t_le]
    refine ⟨fun c => ⟨by omega, by omega, sF t 29 (upd (gF t 29) r.toNatClampNeg (gI st0 10)), ⟨(hF.d (by decide) (by decide)).sF (by decide), fun q hq => ?_⟩, rfl, ?_⟩, fun c => ⟨by omega, by omega, ih (i + 1) x' _ (by omega) (by omega) (by omega) (hF.sF (by decide))⟩⟩
    · show 0 ≤ (upd (gF t 29) r.toNatClampNeg (gI st0 10) q).toInt ∧ (upd (gF t 29) r.toNatClampNeg (gI st0 10) q).toInt ≤ 120
      by_cases q2 : q = r.toNatClampNeg
      · rw [upd_eq q2]; have := hI.2.2.1; omega
      · rw [upd_ne q2, e29]; exact hI.2.1 q hq
    · show upd (gF t 29) r.toNatClampNeg (gI st0 10) r.toNatClampNeg = _
      rw [upd_eq rfl]
theorem r_load2 {r : Int32} {st : RS} (hI : RI st) : Ok (x9_load r st) (fun q => pif ((0 ≤ r.toInt ∧ r.toInt < 4) ∧ (gI st 10).toInt ≤ 120) (∃ u, Kp st u ∧ q.2 = sI u 10 0 ∧ q.1 = gI st 10) (q = (-1, st))) := by
  unfold x9_load
  refine Ok.bp r_isRecord (fun hr => ?_) (fun hr => ?_)
  · simp only [Ok_pif, Ok_some]
    refine ⟨fun h => absurd h (by decide), fun _ => ?_⟩
    rw [t_le, show (120 : Int32).toInt = 120 from rfl]
    refine ⟨fun c => ?_, fun c => by rw [pif_neg (fun q => c q.2)]; trivial⟩
    exact (r_load20b st hI r hr c fuel 0 0 st rfl (by have := hI.2.2.1; omega) (by unfold fuel; omega) Fr.rf).mono (fun q hq => by rw [pif_pos ⟨hr, c⟩]; exact hq)
  · simp only [Ok_pif, Ok_some]
    exact ⟨fun _ => by rw [pif_neg (fun q => hr q.1)]; trivial, fun h => by simp at h⟩
theorem b_load2 {n : Int32} {g : CS} {r : RS} (h : IN g r) : Ok (fX8_load 32 n g) (fun q => Ok (x9_load n r) (fun p => IN q.2 p.2 ∧ q.1 = p.1) ∧ qn q.2 = qn g ∧ qs q.2 = qs g) := by
  refine (c_load2 h.1).mono (fun q hq => ?_)
  rw [h.2.2.1.1] at hq
  by_cases c : (0 ≤ n.toInt ∧ n.toInt < 4) ∧ (gI r 10).toInt ≤ 120
  · rw [pif_pos c] at hq
    obtain ⟨u, hu, e, e0⟩ := hq
    rw [e, e0]
    refine ⟨(r_load2 h.2.1).mono (fun p hp => ?_), hu.2.1, hu.2.2.1⟩
    rw [pif_pos c] at hp
    obtain ⟨v, hv, e2, e3⟩ := hp
    rw [e2, e3]
    exact ⟨h.e hu hv, rfl⟩
  · rw [pif_neg c] at hq
    rw [hq]
    refine ⟨(r_load2 h.2.1).mono (fun p hp => ?_), rfl, rfl⟩
    rw [pif_neg c] at hp
    rw [hp]
    exact ⟨h, rfl⟩
