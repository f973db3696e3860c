/-! every call on both sides -/
theorem Ok.and {α : Type} {x : Option α} {P Q : α → Prop} (h : Ok x P) (k : Ok x Q) : Ok x (fun r => P r ∧ Q r) := by
  obtain ⟨r, e, hr⟩ := h
  obtain ⟨r', e', hr'⟩ := k
  rw [e] at e'
  cases e'
  exact ⟨r, e, hr, hr'⟩
theorem IM.c {g t : CS} {r : RS} (h : IM g r) (hS : Sf g t) : IM t r := ⟨h.1.c hS, h.2.c hS⟩
theorem IM.r {g : CS} {r t : RS} (h : IM g r) (hK : Kp r t) : IM g t := ⟨h.1.r hK, h.2.kp hK⟩
theorem IM.t {g : CS} {r : RS} {n : Int32} (h : IM g r) (h0 : 0 ≤ n.toInt) (h1 : n.toInt ≤ (gI r 10).toInt) : IM (wI g 33 1 n) (sI r 10 n) := ⟨h.1.t h0 h1, (h.2.cf (S := [33]) (by simp) (Cf.rf.wI (by simp))).r (fun _ _ _ => ⟨rfl, rfl⟩)⟩
theorem IM.e {g u : CS} {r t : RS} (h : IM g r) (hS : Sf g u) (hK : Kp r t) : IM (wI u 33 1 0) (sI t 10 0) := by
  have h2 := (h.c hS).r hK
  exact h2.t (by decide) (by show (0 : Int) ≤ _; exact h2.1.bd.1)
def IJ (g : CS) (r : RS) : Prop := IM g r
theorem IJ.k32 {g : CS} {r : RS} (h : IJ g r) : qk g 32 = 11 := h.1.1.1.1
/-- a call on both sides: it answers, what stands stands, its room, how the answers are -/
def Jc {α β : Type} (g : CS) (E : α → β → Prop) (x : Option (α × CS)) (y : Option (β × RS)) : Prop := Ok x (fun q => Ok y (fun p => IJ q.2 p.2 ∧ E q.1 p.1) ∧ qn q.2 ≤ qn g + 1000 ∧ qs q.2 ≤ qs g + 13000)
theorem jc_sk {α β : Type} {g : CS} {r : RS} {x : Option (α × CS)} {y : Option (β × RS)} (h : IJ g r) (hx : Ok x (fun q => Sf g q.2)) (hy : Ok y (fun p => Kp r p.2)) : Jc g (fun _ _ => True) x y := hx.mono (fun q hq => ⟨hy.mono (fun p hp => ⟨(IM.c h hq).r hp, trivial⟩), by rw [hq.2.1]; omega, by rw [hq.2.2.1]; omega⟩)
theorem jc_id {α β : Type} {g : CS} {r : RS} {E : α → β → Prop} {x : Option (α × CS)} {y : Option (β × RS)} (a : α) (b : β) (h : IJ g r) (hx : Ok x (fun q => q = (a, g))) (hy : Ok y (fun p => p = (b, r))) (hE : E a b) : Jc g E x y := hx.mono (fun q hq => by
  rw [hq]
  exact ⟨hy.mono (fun p hp => by rw [hp]; exact ⟨h, hE⟩), by show qn g ≤ _; omega, by show qs g ≤ _; omega⟩)
theorem jc_s0 {α β : Type} {g : CS} {r : RS} {x : Option (α × CS)} {y : Option (β × RS)} (h : IJ g r) (hx : Ok x (fun q => q.2 = g)) (hy : Ok y (fun p => p.2 = r)) : Jc g (fun _ _ => True) x y := hx.mono (fun q hq => ⟨hy.mono (fun p hp => by
  rw [hq, hp]
  exact ⟨h, trivial⟩), by rw [hq]; omega, by rw [hq]; omega⟩)
theorem j_feed {a b c d e : Int32} {g : CS} {r : RS} (h : IJ g r) : Jc g (fun x y => x = y) (fX8_feed 32 a b c d e g) (x9_feed a b c d e r) := by
  have hr := r_feed (a := a) (b := b) (c := c) (d := d) (e := e) h.1.2.1.2.2.1 h.1.2.1.2.2.2
  refine ((b_feed h.1).and (c_feed h.1.1)).mono (fun q hq => ?_)
  obtain ⟨⟨x, t, hx, e1, hI, hn, hs⟩, hC⟩ := hq
  refine ⟨⟨(x, t), hx, ⟨hI, ?_⟩, e1⟩, by omega, by omega⟩
  obtain ⟨y, ey, hR⟩ := hr
  rw [hx] at ey
  cases ey
  have h1 : MkE q.2 r := by
    by_cases c20 : (qI g 33 1).toInt + 20 ≤ 400
    · exact h.2.cf (S := [33, 34]) (by simp) (hC.1 c20).2.2.1
    · rw [hC.2 c20]; exact h.2
  by_cases c20 : (gI r 10).toInt + 20 ≤ 400
  · exact h1.r (fun k k9 k10 => (hR.1 c20).2.1.2 k (by simp; omega))
  · have := hR.2 c20
    cases this
    exact h1
theorem j_end {n : Int32} {g : CS} {r : RS} (h : IJ g r) : Jc g (fun x y => x = y) (fX8_end 32 n g) (x9_end n r) := by
  obtain ⟨h1, h2, h3, h4, h5⟩ := id h.1
  have hr : Ok (x9_end n r) (fun q => pif (0 ≤ n.toInt ∧ n.toInt ≤ (gI r 10).toInt) (q = (1, sI r 10 n)) (q = (0, r))) := by
    unfold x9_end
    simp only [Ok_pif, Ok_some, Ok_nam]
    rw [t_lt, t_le, show (0 : Int32).toInt = 0 from rfl]
    exact ⟨fun c => by rw [pif_neg (by omega)]; trivial, fun c => ⟨fun d => by rw [pif_pos (by omega)]; trivial, fun d => by rw [pif_neg (by omega)]; trivial⟩⟩
  unfold Jc fX8_end
  rw [Ok_gd, h1.1.2.1, Ok_ono]
  refine ⟨h1.1.1, 33, rfl, ?_⟩
  rw [Ok_gd]
  refine ⟨h1.tape.1, Ok.call (c_cut h1.tape) (fun q u hu => ?_)⟩
  rw [h3.1] at hu
  simp only [Ok_gd, Ok_some]
  by_cases c : 0 ≤ n.toInt ∧ n.toInt ≤ (gI r 10).toInt
  · rw [pif_pos c] at hu
    cases hu
    refine ⟨by decide, hr.mono (fun p hp => ?_), by show qn g ≤ _; omega, by show qs g ≤ _; omega⟩
    rw [pif_pos c] at hp
    rw [hp]
    exact ⟨IM.t h c.1 c.2, rfl⟩
  · rw [pif_neg c] at hu
    cases hu
    refine ⟨by decide, hr.mono (fun p hp => ?_), by omega, by omega⟩
    rw [pif_neg c] at hp
    rw [hp]
    exact ⟨h, rfl⟩
theorem j_make {m : Int32} {g : CS} {r : RS} (h : IJ g r) : Jc g (fun x y => x = y) (fX8_make 32 m g) (x9_make m r) := mkM m g r h
theorem r_fault {w : Int32} {st : RS} : Ok (x9_fault w st) (fun q => q.2 = st) := by
  unfold x9_fault
  simp only [Ok_pif, Ok_some]
  exact ⟨fun _ => trivial, fun _ => ⟨fun _ => trivial, fun _ => trivial⟩⟩
theorem r_by {st : RS} : Ok (x9_by st) (fun q => q.2 = st) := by
  unfold x9_by
  rw [Ok_some]
theorem j_fault {w : Int32} {g : CS} {r : RS} (h : IJ g r) : Jc g (fun _ _ => True) (fX8_fault 32 w g) (x9_fault w r) := jc_s0 h (c_fault h.1.1) r_fault
theorem j_by {g : CS} {r : RS} (h : IJ g r) : Jc g (fun _ _ => True) (fX8_by 32 g) (x9_by r) := jc_s0 h (c_by h.1.1) r_by
theorem j_field {m n w : Int32} {g : CS} {r : RS} (h : IJ g r) : Jc g (fun x y => x = y) (fX8_field 32 m n w g) (x9_field_ m n w r) := jc_id _ _ h (m_field h) r_field2 rfl
theorem j_plain {m n : Int32} {g : CS} {r : RS} (h : IJ g r) : Jc g (fun x y => x = y) (fX8_plain 32 m n g) (x9_plain m n r) := jc_id _ _ h (m_plain h) r_plain2 rfl
theorem j_clear {a : Int32} {g : CS} {r : RS} (h : IJ g r) : Jc g (fun _ _ => True) (fX8_clear 32 a g) (x9_clear a r) := jc_sk h (c_clear h.1.1) (r_clear h.1.2.1)
theorem j_load {n : Int32} {g : CS} {r : RS} (h : IJ g r) : Jc g (fun x y => x = y) (fX8_load 32 n g) (x9_load n r) := by
  refine (c_load2 h.1.1).mono (fun q hq => ?_)
  rw [h.1.2.2.1.1] at hq
  by_cases c : (0 ≤ n.toInt ∧ n.toInt < 4) ∧ (gI r 10).toInt ≤ 120
  · rw [pif_pos c] at hq
    obtain ⟨u, hu, e, e0⟩ := hq
    rw [e, e0]
    refine ⟨(r_load2 h.1.2.1).mono (fun p hp => ?_), by show qn u ≤ _; rw [hu.2.1]; omega, by show qs u ≤ _; rw [hu.2.2.1]; omega⟩
    rw [pif_pos c] at hp
    obtain ⟨v, hv, e2, e3⟩ := hp
    rw [e2, e3]
    exact ⟨IM.e h hu hv, rfl⟩
  · rw [pif_neg c] at hq
    rw [hq]
    refine ⟨(r_load2 h.1.2.1).mono (fun p hp => ?_), by show qn g ≤ _; omega, by show qs g ≤ _; omega⟩
    rw [pif_neg c] at hp
    rw [hp]
    exact ⟨h, rfl⟩
theorem j_say {a b c : Int32} {g : CS} {r : RS} (h : IJ g r) : Jc g (fun _ _ => True) (fX8_say 32 a b c g) (x9_say a b c r) := by
  refine (c_say h.1.1).mono (fun q hq => ?_)
  obtain ⟨u, hu, e⟩ := hq
  rw [e]
  refine ⟨(r_say h.1.2.1).mono (fun p hp => ⟨?_, trivial⟩), by show qn u ≤ _; rw [hu.2.1]; omega, by show qs u ≤ _; rw [hu.2.2.1]; omega⟩
  have h2 := (IM.c h hu).t (n := 0) (by decide) (by show (0 : Int) ≤ _; exact h.1.bd.1)
  exact h2.r hp
theorem j_set {a m n : Int32} {v : Int64} {g : CS} {r : RS} (h : IJ g r) : Jc g (fun _ _ => True) (fX8_set 32 a m n v g) (x9_set a m n v r) := jc_sk h (c_set h.1.1) (r_set h.1.2.1)
theorem j_nest {a m n o : Int32} {g : CS} {r : RS} (h : IJ g r) : Jc g (fun _ _ => True) (fX8_nest 32 a m n o g) (x9_nest a m n o r) := jc_sk h (c_nest h.1.1) (r_nest h.1.2.1)
theorem j_drop {a m n : Int32} {g : CS} {r : RS} (h : IJ g r) : Jc g (fun _ _ => True) (fX8_drop 32 a m n g) (x9_drop a m n r) := jc_sk h (c_drop h.1.1) (r_drop h.1.2.1)
theorem j_read {a m : Int32} {g : CS} {r : RS} (h : IJ g r) : Jc g (fun _ _ => True) (fX8_read 32 a m g) (x9_read a m r) := jc_sk h (c_read h.1.1) (r_read h.1.2.1)
theorem j_get {a m n w : Int32} {g : CS} {r : RS} (h : IJ g r) : Jc g (fun _ _ => True) (fX8_get 32 a m n w g) (x9_get a m n w r) := jc_sk h (c_get h.1.1) (r_get h.1.2.1)
theorem j_kept {a m : Int32} {g : CS} {r : RS} (h : IJ g r) : Jc g (fun _ _ => True) (fX8_kept 32 a m g) (x9_kept a m r) := jc_sk h (c_kept h.1.1) (r_kept h.1.2.1)
theorem j_write {a m o : Int32} {g : CS} {r : RS} (h : IJ g r) : Jc g (fun _ _ => True) (fX8_write 32 a m o g) (x9_write a m o r) := jc_sk h (c_write h.1.1) (r_write h.1.2.1)
theorem j_at {a i : Int32} {g : CS} {r : RS} (h : IJ g r) : Jc g (fun _ _ => True) (fX8_at 32 a i g) (x9_at a i r) := jc_s0 h (c_at h.1.1) (r_at h.1.2.1)
theorem j_open {a m n o : Int32} {g : CS} {r : RS} (h : IJ g r) : Jc g (fun _ _ => True) (fX8_open 32 a m n o g) (x9_open a m n o r) := jc_sk h (c_open h.1.1) (r_open h.1.2.1)
theorem j_step {a b : Int32} {g : CS} {r : RS} (h : IJ g r) : Jc g (fun _ _ => True) (fX8_step 32 a b g) (x9_step a b r) := jc_sk h (c_step h.1.1) (r_step h.1.2.1)
theorem j_walk {a b c : Int32} {g : CS} {r : RS} (h : IJ g r) : Jc g (fun _ _ => True) (fX8_walk 32 a b c g) (x9_walk a b c r) := jc_sk h (c_walk h.1.1) (r_walk h.1.2.1)
theorem j_readers {m : Int32} {g : CS} {r : RS} (h : IJ g r) : Jc g (fun _ _ => True) (fX8_readers 32 m g) (x9_readers m r) := jc_sk h (c_readers h.1.1) (r_readers h.1.2.1)
