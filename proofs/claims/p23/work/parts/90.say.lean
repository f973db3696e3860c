/-- the class's tape is emptied -/
theorem c_cutT {g : CS} (h : CI g) : Ok (fX5_cut 33 0 g) (fun q => q = (1, wI g 33 1 0)) := by
  refine (c_cut h.tape).mono (fun q hq => ?_)
  have h0 := h.tape.2.2.2.2.1
  rw [pif_pos ⟨by decide, by show (0 : Int) ≤ _; exact h0⟩] at hq
  exact hq
theorem rw_ne33 {row cap : Nat} (h : isRw row cap) : (33 : Nat) ≠ row ∧ (33 : Nat) ≠ row + 1 ∨ (33 : Nat) = row := by
  rcases h with ⟨q | q | q | q, -⟩ | ⟨q | q, -⟩ <;> omega
theorem c_load {r : Int32} {g : CS} (h : CI g) : Ok (fX8_load 32 r g) (fun q => pif ((0 ≤ r.toInt ∧ r.toInt < 4) ∧ (qI g 33 1).toInt ≤ 120) (∃ u, Sf g u ∧ q.2 = wI u 33 1 0) (q = (-1, g))) := by
  have h0 := h.tape
  have hl := h0.2.2.2.2
  unfold fX8_load
  rw [Ok_gd]
  refine ⟨h.1.1, Ok.same (c_recordOf h) (fun o1 h1 => ?_)⟩
  simp only [Ok_pif, Ok_some]
  refine ⟨fun c => ?_, fun c1 => ?_⟩
  · rw [pif_neg (fun q => (h1.2.mpr q.1) c)]
    trivial
  have hr4 := h1.2.mp c1
  obtain ⟨row, e1⟩ := Option.ne_none_iff_exists'.mp c1
  subst e1
  have hrw := h1.1 row rfl
  rw [h.1.2.1, Ok_ono]
  refine ⟨33, rfl, ?_⟩
  rw [Ok_gd]
  refine ⟨h0.1, Ok.call (c_size h0) (fun q t ht => ?_)⟩
  have e1 : q = qI g 33 1 := congrArg Prod.fst ht
  have e2 : t = g := congrArg Prod.snd ht
  subst e2
  subst e1
  simp only [Ok_pif, Ok_some]
  rw [t_le, show (120 : Int32).toInt = 120 from rfl]
  refine ⟨fun c => ?_, fun c => ?_⟩
  case refine_2 =>
    rw [pif_neg (fun q => c q.2)]
    trivial
  refine Ok.mono (P := fun q => ∃ u, Sf t u ∧ q.2 = wI u 33 1 0) ?_ (fun q hq => by rw [pif_pos ⟨hr4, c⟩]; exact hq)
  rw [h.1.2.1, Ok_ono]
  refine ⟨33, rfl, ?_⟩
  rw [Ok_gd]
  refine ⟨h0.1, Ok.call (c_size h0) (fun q2 t2 ht2 => ?_)⟩
  have e3 : q2 = qI t 33 1 := congrArg Prod.fst ht2
  have e4 : t2 = t := congrArg Prod.snd ht2
  subst e4
  subst e3
  rw [Ok_ono]
  refine ⟨row, rfl, ?_⟩
  rw [Ok_gd]
  refine ⟨(h.rw hrw).1, Ok.callv (c_become (h.rw hrw) h0 (rw_ne33 hrw) (by decide) (by decide) (by omega)) (fun u hu => ?_)⟩
  have hSu := Sf.row h hrw hu.1 hu.2
  rw [hSu.1.1.2.1, Ok_ono]
  refine ⟨33, rfl, ?_⟩
  rw [Ok_gd]
  refine ⟨hSu.1.tape.1, Ok.call (c_cutT hSu.1) (fun q3 w hw => ?_)⟩
  have ew : w = wI u 33 1 0 := congrArg Prod.snd hw
  subst ew
  have hCw : CI (wI u 33 1 0) := hSu.1.tp (Cf.rf.wI (by simp)) (hSu.1.tape.wS (by decide) (by decide))
  refine Ok.call (c_size (hCw.rw hrw)) (fun q4 y hy => ?_)
  have ey : y = wI u 33 1 0 := congrArg Prod.snd hy
  rw [Ok_some, ey]
  exact ⟨u, hSu, rfl⟩
theorem r_load20 (st0 : RS) (hI : RI st0) (r : Int32) (hr : 0 ≤ r.toInt ∧ r.toInt < 4) (h120 : (gI st0 10).toInt ≤ 120) : ∀ (z i : Nat) (x : Int32) (t : RS), x.toInt = i → (i : Int) ≤ (gI st0 10).toInt → 120 - i < z → Fr [] [28] st0 t → Ok (x9_load_20 z r x t) (fun q => ∃ u, Kp st0 u ∧ q.2 = sI u 10 0) := by
  intro z
  induction z with
  | zero => intro i x t a b c; omega
  | succ z ih =>
    intro i x t hx hi hz hF
    have e := inc (x := x) (by omega) (by omega)
    have e10 : gI t 10 = gI st0 10 := (hF.1 10 (by decide)).1
    have e29 : gF t 29 = gF st0 29 := (hF.2 29 (by decide)).1
    have em : (120 * r).toInt = 120 * r.toInt := by
      rw [t_mul (by show -2147483648 ≤ 120 * r.toInt; omega) (by show 120 * r.toInt < 2147483648; omega)]
      rfl
    have ea : (120 * r + x).toInt = 120 * r.toInt + i := by rw [t_add (by omega) (by omega), em, hx]
    rw [x9_load_20_s]
    generalize x + 1 = x' at e ⊢
    simp only [Ok_pif, Ok_gd, Ok_nam, Ok_some, t_in, ea, e10]
    rw [t_le]
    refine ⟨fun c => ⟨by omega, by omega, sF t 29 (upd (gF t 29) r.toNatClampNeg (gI st0 10)), ⟨(hF.d (by decide) (by decide)).sF (by decide), fun q hq => ?_⟩, rfl⟩, fun c => ⟨by omega, by omega, ih (i + 1) x' _ (by omega) (by omega) (by omega) (hF.sF (by decide))⟩⟩
    show 0 ≤ (upd (gF t 29) r.toNatClampNeg (gI st0 10) q).toInt ∧ (upd (gF t 29) r.toNatClampNeg (gI st0 10) q).toInt ≤ 120
    by_cases q2 : q = r.toNatClampNeg
    · rw [upd_eq q2]; have := hI.2.2.1; omega
    · rw [upd_ne q2, e29]; exact hI.2.1 q hq
theorem r_load {r : Int32} {st : RS} (hI : RI st) : Ok (x9_load r st) (fun q => pif ((0 ≤ r.toInt ∧ r.toInt < 4) ∧ (gI st 10).toInt ≤ 120) (∃ u, Kp st u ∧ q.2 = sI u 10 0) (q = (-1, st))) := by
  unfold x9_load
  refine Ok.bp r_isRecord (fun hr => ?_) (fun hr => ?_)
  · simp only [Ok_pif, Ok_some]
    refine ⟨fun h => absurd h (by decide), fun _ => ?_⟩
    rw [t_le, show (120 : Int32).toInt = 120 from rfl]
    refine ⟨fun c => ?_, fun c => by rw [pif_neg (fun q => c q.2)]; trivial⟩
    exact (r_load20 st hI r hr c fuel 0 0 st rfl (by have := hI.2.2.1; omega) (by unfold fuel; omega) Fr.rf).mono (fun q hq => by rw [pif_pos ⟨hr, c⟩]; exact hq)
  · simp only [Ok_pif, Ok_some]
    exact ⟨fun _ => by rw [pif_neg (fun q => hr q.1)]; trivial, fun h => by simp at h⟩
theorem IN.bd {g : CS} {r : RS} (h : IN g r) : 0 ≤ (gI r 10).toInt ∧ (gI r 10).toInt ≤ 400 := h.2.1.2.2
/-- both tapes are emptied, whatever else has changed -/
theorem IN.e {g u : CS} {r t : RS} (h : IN g r) (hS : Sf g u) (hK : Kp r t) : IN (wI u 33 1 0) (sI t 10 0) := by
  have h2 := (h.c hS).r hK
  exact h2.t (by decide) (by show (0 : Int) ≤ _; exact h2.bd.1)
theorem b_load {n : Int32} {g : CS} {r : RS} (h : IN g r) : Ok (fX8_load 32 n g) (fun q => Ok (x9_load n r) (fun p => IN q.2 p.2) ∧ qn q.2 = qn g ∧ qs q.2 = qs g) := by
  refine (c_load h.1).mono (fun q hq => ?_)
  rw [h.2.2.1.1] at hq
  by_cases c : (0 ≤ n.toInt ∧ n.toInt < 4) ∧ (gI r 10).toInt ≤ 120
  · rw [pif_pos c] at hq
    obtain ⟨u, hu, e⟩ := hq
    rw [e]
    refine ⟨(r_load h.2.1).mono (fun p hp => ?_), hu.2.1, hu.2.2.1⟩
    rw [pif_pos c] at hp
    obtain ⟨v, hv, e2⟩ := hp
    rw [e2]
    exact h.e hu hv
  · rw [pif_neg c] at hq
    rw [hq]
    refine ⟨(r_load h.2.1).mono (fun p hp => ?_), rfl, rfl⟩
    rw [pif_neg c] at hp
    rw [hp]
    exact h
theorem c_say {r m n : Int32} {g : CS} (h : CI g) : Ok (fX8_say 32 r m n g) (fun q => ∃ u, Sf g u ∧ q.2 = wI u 33 1 0) := by
  have f169 : ∀ (x : Int32) (t : CS), Sf g t → Ok (fX8_say_169 32 x t) (fun q => ∃ u, Sf g u ∧ q.2 = wI u 33 1 0) := by
    intro x t ht
    unfold fX8_say_169
    rw [Ok_gd, ht.1.1.2.1, Ok_ono]
    refine ⟨ht.1.1.1, 33, rfl, ?_⟩
    rw [Ok_gd]
    refine ⟨ht.1.tape.1, Ok.call (c_cutT ht.1) (fun q w hw => ?_)⟩
    have ew : w = wI t 33 1 0 := congrArg Prod.snd hw
    rw [Ok_some, ew]
    exact ⟨t, ht, rfl⟩
  have no := f169 (-1) g (Sf.rf h)
  have h0 := h.tape
  unfold fX8_say fX8_say_49
  rw [Ok_gd]
  refine ⟨h.1.1, Ok.same (c_recordOf h) (fun o1 h1 => Ok.same (c_mk h) (fun o2 h2 => Ok.same (c_fieldOf h) (fun o3 h3 => ?_)))⟩
  simp only [Ok_pif]
  refine ⟨fun _ => no, fun c1 => ⟨fun _ => no, fun c2 => ⟨fun _ => no, fun c3 => ?_⟩⟩⟩
  obtain ⟨row, e1⟩ := Option.ne_none_iff_exists'.mp c1
  obtain ⟨mk, e2⟩ := Option.ne_none_iff_exists'.mp c2
  obtain ⟨f, e3⟩ := Option.ne_none_iff_exists'.mp c3
  subst e1
  subst e2
  subst e3
  have hrw := h1.1 row rfl
  have hmk := h2 mk rfl
  have hf := h3 f rfl
  rw [Ok_ono]
  refine ⟨f, rfl, ?_⟩
  rw [Ok_gd]
  refine ⟨hf.1, ?_⟩
  simp only [Ok_pif]
  refine ⟨fun _ => ?_, fun _ => no⟩
  rw [h.1.2.2.2.2.2.1, Ok_ono]
  refine ⟨48, rfl, ?_⟩
  rw [Ok_gd]
  refine ⟨h.2.2.2.1.1, Ok.call (c_isSound h hrw (fun x hx => h2 x hx)) (fun q t ht => ?_)⟩
  obtain ⟨hSt, -⟩ := ht
  have hSt : Sf g t := hSt
  have hT := hSt.1.tape
  simp only [Ok_pif]
  refine ⟨fun _ => f169 _ t hSt, fun _ => ?_⟩
  rw [hSt.1.1.2.1, Ok_ono]
  refine ⟨33, rfl, ?_⟩
  rw [Ok_gd]
  refine ⟨hT.1, Ok.call (c_size hT) (fun q2 t2 ht2 => ?_)⟩
  have e4 : q2 = qI t 33 1 := congrArg Prod.fst ht2
  have e5 : t2 = t := congrArg Prod.snd ht2
  subst e5
  subst e4
  have hl := hT.2.2.2.2
  refine Ok.d01 ((c_isText hT (by decide) (by decide) hl.1 (by omega)).mono (fun q hq => hq)) ?_ ?_
  · simp only [Ok_pif]
    exact ⟨fun _ => f169 _ t2 hSt, fun h => by simp at h⟩
  simp only [Ok_pif]
  refine ⟨fun h => absurd h (by decide), fun _ => ?_⟩
  rw [hSt.1.1.2.2.2.2.2.2.2.2.1, Ok_ono]
  refine ⟨72, rfl, ?_⟩
  rw [Ok_gd]
  refine ⟨(hSt.1.rw rw72).1, Ok.call (c_cut0 hSt.1 rw72) (fun q3 u hu => ?_)⟩
  have hSu : Sf g u := hSt.tr hu
  rw [hSu.1.1.2.2.2.2.2.2.2.2.1, Ok_ono]
  refine ⟨72, rfl, ?_⟩
  rw [Ok_gd]
  refine ⟨(hSu.1.rw rw72).1, Ok.callv (c_pushKey (hSu.1.rw rw72) (hf.fr hSu.2).1) (fun w hw => ?_)⟩
  have hSw := hSu.tr (Sf.row hSu.1 rw72 hw.1 hw.2)
  have hTw := hSw.1.tape
  rw [hSw.1.1.2.1, hSw.1.1.2.2.2.2.2.2.2.2.1, Ok_ono]
  refine ⟨33, rfl, ?_⟩
  rw [Ok_gd]
  refine ⟨hTw.1, Ok.call (c_size hTw) (fun qs us hus => ?_)⟩
  have e6 : us = w := congrArg Prod.snd hus
  subst e6
  rw [Ok_ono]
  refine ⟨72, rfl, ?_⟩
  rw [Ok_gd]
  refine ⟨(hSw.1.rw rw72).1, Ok.callv (c_pushVarint (hSw.1.rw rw72)) (fun y hy => ?_)⟩
  have hSy := hSw.tr (Sf.row hSw.1 rw72 hy.1 hy.2)
  have hTy := hSy.1.tape
  rw [hSy.1.1.2.1, hSy.1.1.2.2.2.2.2.2.2.2.1, Ok_ono]
  refine ⟨33, rfl, ?_⟩
  rw [Ok_gd]
  refine ⟨hTy.1, Ok.call (c_size hTy) (fun qz uz huz => ?_)⟩
  have e7 : uz = y := congrArg Prod.snd huz
  have e8 : qz = qI y 33 1 := congrArg Prod.fst huz
  subst e7
  subst e8
  have hl2 := hTy.2.2.2.2
  rw [Ok_ono]
  refine ⟨72, rfl, ?_⟩
  rw [Ok_gd]
  refine ⟨(hSy.1.rw rw72).1, Ok.callv (c_append (hSy.1.rw rw72) hTy (Or.inl ⟨by decide, by decide⟩) (by decide) (by decide) (by omega)) (fun z hz => ?_)⟩
  have hSz := hSy.tr (Sf.row hSy.1 rw72 hz.1 hz.2)
  exact Ok.call (c_settle hSz.1 hrw (hmk.fr hSz.2)) (fun q9 x hx => f169 q9 x (hSz.tr hx))
theorem b_say {a b c : Int32} {g : CS} {r : RS} (h : IN g r) : Ok (fX8_say 32 a b c g) (fun q => Ok (x9_say a b c r) (fun p => IN q.2 p.2) ∧ qn q.2 = qn g ∧ qs q.2 = qs g) := by
  refine (c_say h.1).mono (fun q hq => ?_)
  obtain ⟨u, hu, e⟩ := hq
  rw [e]
  refine ⟨(r_say h.2.1).mono (fun p hp => ?_), hu.2.1, hu.2.2.1⟩
  have h2 := (h.c hu).t (n := 0) (by decide) (by show (0 : Int) ≤ _; exact h.bd.1)
  exact h2.r hp
