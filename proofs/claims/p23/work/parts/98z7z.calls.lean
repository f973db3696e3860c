/-! every call on both sides, the records among what stands -/
/-- what stands between two calls -/
def IJ0 (g : CS) (r : RS) : Prop := IM g r ∧ WkC g r ∧ qI g 32 11 = gI r 59
theorem IJ0.w {g : CS} {r : RS} (h : IJ0 g r) : IW g r := ⟨⟨h.1.1.1, h.1.1.2.1.1, h.1.1.2.2.2.1, h.1.2⟩, h.2.1⟩
theorem IJ0.c {g t : CS} {r : RS} (h : IJ0 g r) (hS : Sf g t) : IJ0 t r := ⟨h.1.c hS, h.2.1.c (hS.2.i (by decide)), by rw [hS.2.i (by decide)]; exact h.2.2⟩
theorem IJ0.r {g : CS} {r t : RS} (h : IJ0 g r) (hK : Kp r t) : IJ0 g t := ⟨h.1.r hK, h.2.1.r h.1.1.2.1.1 (sam_of (kp_10 hK)), by rw [(hK.1.1 59 (by decide)).1]; exact h.2.2⟩
theorem IJ0.t {g : CS} {r : RS} {n : Int32} (h : IJ0 g r) (h0 : 0 ≤ n.toInt) (h1 : n.toInt ≤ (gI r 10).toInt) : IJ0 (wI g 33 1 n) (sI r 10 n) := ⟨h.1.t h0 h1, (h.2.1.c (qI_wo (by decide))).r h.1.1.2.1.1 (sam_of (fun _ _ _ => ⟨rfl, rfl⟩)), by rw [qI_wo (by decide)]; exact h.2.2⟩
theorem IJ0.e {g u : CS} {r t : RS} (h : IJ0 g r) (hS : Sf g u) (hK : Kp r t) : IJ0 (wI u 33 1 0) (sI t 10 0) := by
  have h2 := (h.c hS).r hK
  exact h2.t (by decide) (by show (0 : Int) ≤ _; exact h2.1.1.bd.1)
theorem IJ0.rd {g t : CS} {r : RS} (h : IJ0 g r) (hC : CI t) (hF : Cf (32 :: cfL) g t) (h11 : qI t 32 11 = qI g 32 11) : IJ0 t r := by
  obtain ⟨⟨⟨h1, h2, h3, h4, h5⟩, h6⟩, h7, h8⟩ := h
  have hS : ∀ i, i ∈ 32 :: cfL → 32 ≤ i ∧ i < 76 := fun i hi => by
    rcases List.mem_cons.mp hi with q | q
    · omega
    · exact cfL_s i q
  refine ⟨⟨⟨hC, h2, ⟨?_, fun j hj => ?_⟩, fun j hj => ?_, h5⟩, h6.cf hS hF⟩, h7.c (hF.i (by decide)), by rw [h11]; exact h8⟩
  · rw [hF.i (by decide)]; exact h3.1
  · rw [hF.i (by decide)]; exact h3.2 j hj
  · rw [hF.p]; exact h4 j hj
/-- the records stay alike -/
theorem RcE.same {g t : CS} {r s : RS} (h : RcE g r) (hg : ∀ i, 36 ≤ i → i < 44 → qI t i = qI g i) (h28 : gF s 28 = gF r 28) (h29 : gF s 29 = gF r 29) : RcE t s := fun j hj => by
  have := h j hj
  unfold RwB rbN rbF at *
  rw [hg _ (by omega) (by omega), hg _ (by omega) (by omega), h28, h29]
  exact this
theorem RcE.ek {g u : CS} {r v : RS} {o : Nat} {W : List Int32} (h : RcE g r) (hR : RcI r) (hC : ClE g u o W) (hL : RcL v o W) (hO : RcO r v o) : RcE u v := fun j hj => by
  by_cases c : j = o
  · rw [c]
    obtain ⟨b1, b2⟩ := (hC.2.1.1).b hC.2.1.2
    obtain ⟨l1, l2⟩ := hL
    have eN : rbN v o = W.length := by unfold rbN; rw [t_nat]; omega
    refine ⟨by rw [eN]; exact b1, fun k hk => ?_⟩
    rw [eN] at hk
    have e : rbF v o k = ix W k := l2 k hk
    rw [e]
    exact b2 k hk
  · obtain ⟨c1, c2⟩ := hC.2.2 j hj c
    obtain ⟨v1, v2⟩ := hO j hj c
    obtain ⟨b1, b2⟩ := h j hj
    have eN : rbN v j = rbN r j := by unfold rbN; rw [v1]
    have hle := rbN_le hR hj
    refine ⟨by rw [c1, eN]; exact b1, fun k hk => ?_⟩
    rw [eN] at hk
    have e : rbF v j k = rbF r j k := v2 k (by omega)
    rw [e, c2]
    exact b2 k hk
/-- what stands between two calls -/
def IJ (g : CS) (r : RS) : Prop := IJ0 g r ∧ RcE g r
theorem IJ.k32 {g : CS} {r : RS} (h : IJ g r) : qk g 32 = 11 := h.1.1.1.1.1.1
theorem IJ.ci {g : CS} {r : RS} (h : IJ g r) : CI g := h.1.1.1.1
theorem IJ.ri {g : CS} {r : RS} (h : IJ g r) : RI r := h.1.1.1.2.1
theorem IJ.tp {g : CS} {r : RS} (h : IJ g r) : TpE g r := h.1.1.1.2.2.1
theorem IJ.ir {g : CS} {r : RS} (h : IJ g r) : IR g r := ⟨h.1.1.1.1, h.1.1.1.2.1.1, h.1.1.1.2.2.2.1, h.1.1.2⟩
theorem IR.gr {g : CS} {r : RS} (h : IR g r) : GrI r := fun m n hm hN => by
  obtain ⟨hC, hM, hT, hE⟩ := h
  have c : qP g 44 m ≠ none := fun q => hm.2 ((hT m hm.1).mp q)
  obtain ⟨mk, e⟩ := Option.ne_none_iff_exists'.mp c
  obtain ⟨ar, e1, e2, e3, e4, e5, e6, e7⟩ := hE m hm.1 mk e
  have d : qP g ar n ≠ none := (e5 n (by have := hN.2.1; omega)).mpr hN.2.2.1
  obtain ⟨H, eH⟩ := Option.ne_none_iff_exists'.mp d
  exact (e7 n H (by have := hN.2.1; omega) eH).kd.2.2.2
theorem IJ.kk {g t : CS} {r s : RS} (h : IJ g r) (hC : ClK g t) (hR : RfK r s) : IJ t s := ⟨(h.1.c hC.1).r hR.1, h.2.same hC.2 hR.2.1 hR.2.2⟩
theorem IJ.ee {g t : CS} {r s : RS} {o : Nat} {W : List Int32} (h : IJ g r) (hC : ClE g t o W) (hR : RfE r s o W) : IJ t s := ⟨(h.1.c hC.1).r hR.1, h.2.ek h.ri.2.1 hC hR.2.1 hR.2.2⟩
theorem IJ.t {g : CS} {r : RS} {n : Int32} (h : IJ g r) (h0 : 0 ≤ n.toInt) (h1 : n.toInt ≤ (gI r 10).toInt) : IJ (wI g 33 1 n) (sI r 10 n) := ⟨h.1.t h0 h1, h.2.same (fun i i1 i2 => qI_wo (by omega)) rfl rfl⟩
/-- a call on both sides: it answers, what stands stands, its room, how the answers are -/
def Jc {α β : Type} (g : CS) (E : α → β → Prop) (x : Option (α × CS)) (y : Option (β × RS)) : Prop := Ok x (fun q => Ok y (fun p => IJ q.2 p.2 ∧ E q.1 p.1) ∧ qn q.2 ≤ qn g + 1000 ∧ qs q.2 ≤ qs g + 13000)
theorem jc_id {α β : Type} {g : CS} {r : RS} {E : α → β → Prop} {x : Option (α × CS)} {y : Option (β × RS)} (a : α) (b : β) (h : IJ g r) (hx : Ok x (fun q => q = (a, g))) (hy : Ok y (fun p => p = (b, r))) (hE : E a b) : Jc g E x y := hx.mono (fun q hq => by
  rw [hq]
  exact ⟨hy.mono (fun p hp => by rw [hp]; exact ⟨h, hE⟩), by show qn g ≤ _; omega, by show qs g ≤ _; omega⟩)
theorem jc_s0 {α β : Type} {g : CS} {r : RS} {x : Option (α × CS)} {y : Option (β × RS)} (h : IJ g r) (hx : Ok x (fun q => q.2 = g)) (hy : Ok y (fun p => p.2 = r)) : Jc g (fun _ _ => True) x y := hx.mono (fun q hq => ⟨hy.mono (fun p hp => by
  rw [hq, hp]
  exact ⟨h, trivial⟩), by rw [hq]; omega, by rw [hq]; omega⟩)
theorem ClA.sf {g t : CS} {v : Int32} {S : Int × Option (Nat × List Int32)} (h : ClA g S (v, t)) : Sf g t := by
  by_cases e : S.2 = none
  · exact (h.2.1 e).1
  · obtain ⟨⟨o, W⟩, e'⟩ := Option.ne_none_iff_exists'.mp e
    exact (h.2.2 o W e').2.1
theorem jc_a {g : CS} {r : RS} {S : Int × Option (Nat × List Int32)} {x : Option (Int32 × CS)} {y : Option (Int32 × RS)} (h : IJ g r) (hx : Ok x (ClA g S)) (hy : Ok y (RfA r S)) : Jc g (fun a b => a = b) x y := hx.mono (fun q hq => by
  have hS : Sf g q.2 := ClA.sf (v := q.1) hq
  refine ⟨hy.mono (fun p hp => ⟨?_, by show q.1 = p.1; rw [t_eq, hq.1, hp.1]⟩), by rw [hS.2.1]; omega, by rw [hS.2.2.1]; omega⟩
  by_cases e : S.2 = none
  · exact h.kk (hq.2.1 e) (hp.2.1 e)
  · obtain ⟨⟨o, W⟩, e'⟩ := Option.ne_none_iff_exists'.mp e
    exact h.ee (hq.2.2 o W e').2 (hp.2.2 o W e'))
theorem j_feed {a b c d e : Int32} {g : CS} {r : RS} (h : IJ g r) : Jc g (fun x y => x = y) (fX8_feed 32 a b c d e g) (x9_feed a b c d e r) := by
  have hr := r_feed (a := a) (b := b) (c := c) (d := d) (e := e) h.ri.2.2.1 h.ri.2.2.2
  refine ((b_feed h.1.1.1).and (c_feed h.ci)).mono (fun q hq => ?_)
  obtain ⟨⟨x, t, hx, e1, hI, hn, hs⟩, hC⟩ := hq
  refine ⟨⟨(x, t), hx, ?_, e1⟩, by omega, by omega⟩
  obtain ⟨y, ey, hR⟩ := hr
  rw [hx] at ey
  cases ey
  have hF : Cf [33, 34] g q.2 := by
    by_cases c20 : (qI g 33 1).toInt + 20 ≤ 400
    · exact (hC.1 c20).2.2.1
    · rw [hC.2 c20]; exact Cf.rf
  have hK : (∀ k, k ≠ 9 → k < 10 → gF t k = gF r k ∧ gL t k = gL r k) ∧ gI t 59 = gI r 59 ∧ gF t 28 = gF r 28 ∧ gF t 29 = gF r 29 := by
    by_cases c20 : (gI r 10).toInt + 20 ≤ 400
    · exact ⟨fun k k9 k10 => (hR.1 c20).2.1.2 k (by simp; omega), ((hR.1 c20).2.1.1 59 (by decide)).1, ((hR.1 c20).2.1.2 28 (by decide)).1, ((hR.1 c20).2.1.2 29 (by decide)).1⟩
    · have := hR.2 c20
      cases this
      exact ⟨fun _ _ _ => ⟨rfl, rfl⟩, rfl, rfl, rfl⟩
  exact ⟨⟨⟨hI, (h.1.1.2.cf (S := [33, 34]) (by simp) hF).r hK.1⟩, (h.1.2.1.c (hF.i (by decide))).r h.ri.1 (sam_of hK.1), by rw [hF.i (by decide), hK.2.1]; exact h.1.2.2⟩, h.2.same (fun i i1 i2 => hF.i (by simp; omega)) hK.2.2.1 hK.2.2.2⟩
theorem j_end {n : Int32} {g : CS} {r : RS} (h : IJ g r) : Jc g (fun x y => x = y) (fX8_end 32 n g) (x9_end n r) := by
  obtain ⟨h1, h2, h3, h4, h5⟩ := id h.1.1.1
  have hr : Ok (x9_end n r) (fun q => pif (0 ≤ n.toInt ∧ n.toInt ≤ (gI r 10).toInt) (q = (1, sI r 10 n)) (q = (0, r))) := by
    unfold x9_end
    simp only [Ok_pif, Ok_some, Ok_nam]
    rw [t_lt, t_le, show (0 : Int32).toInt = 0 from rfl]
    exact ⟨fun c => by rw [pif_neg (by omega)]; trivial, fun c => ⟨fun d => by rw [pif_pos (by omega)]; trivial, fun d => by rw [pif_neg (by omega)]; trivial⟩⟩
  unfold Jc fX8_end
  rw [Ok_gd, h1.1.2.1, Ok_ono]
  refine ⟨h1.1.1, 33, rfl, ?_⟩
  rw [Ok_gd]
  refine ⟨h1.tape.1, Ok.call (c_cut h1.tape) (fun q u hu => ?_)⟩
  rw [h3.1] at hu
  simp only [Ok_gd, Ok_some]
  by_cases c : 0 ≤ n.toInt ∧ n.toInt ≤ (gI r 10).toInt
  · rw [pif_pos c] at hu
    cases hu
    refine ⟨by decide, hr.mono (fun p hp => ?_), by show qn g ≤ _; omega, by show qs g ≤ _; omega⟩
    rw [pif_pos c] at hp
    rw [hp]
    exact ⟨h.t c.1 c.2, rfl⟩
  · rw [pif_neg c] at hu
    cases hu
    refine ⟨by decide, hr.mono (fun p hp => ?_), by omega, by omega⟩
    rw [pif_neg c] at hp
    rw [hp]
    exact ⟨h, rfl⟩
theorem j_make {m : Int32} {g : CS} {r : RS} (h : IJ g r) : Jc g (fun x y => x = y) (fX8_make 32 m g) (x9_make m r) := (mkM m g r h.1.1).mono (fun q hq => ⟨hq.1.mono (fun p hp => ⟨⟨⟨hp.1, (h.1.2.1.c (hq.2.1.1 71 (Or.inr rfl))).r h.ri.1 hp.2.2.sam, by rw [hq.2.1.2, hp.2.2.2.2.2]; exact h.1.2.2⟩, h.2.same (fun i i1 i2 => hq.2.1.1 i (Or.inl ⟨i1, i2⟩)) hp.2.2.2.1 hp.2.2.2.2.1⟩, hp.2.1⟩), hq.2.2⟩)
theorem j_fault {w : Int32} {g : CS} {r : RS} (h : IJ g r) : Jc g (fun _ _ => True) (fX8_fault 32 w g) (x9_fault w r) := jc_s0 h (c_fault h.ci) r_fault
theorem j_by {g : CS} {r : RS} (h : IJ g r) : Jc g (fun x y => x = y) (fX8_by 32 g) (x9_by r) := jc_id _ _ h (m_by h.ci) r_by h.1.2.2
theorem j_field {m n w : Int32} {g : CS} {r : RS} (h : IJ g r) : Jc g (fun x y => x = y) (fX8_field 32 m n w g) (x9_field_ m n w r) := jc_id _ _ h (m_field h.1.1) r_field2 rfl
theorem j_plain {m n : Int32} {g : CS} {r : RS} (h : IJ g r) : Jc g (fun x y => x = y) (fX8_plain 32 m n g) (x9_plain m n r) := jc_id _ _ h (m_plain h.1.1) r_plain2 rfl
theorem j_clear {a : Int32} {g : CS} {r : RS} (h : IJ g r) : Jc g (fun x y => x = y) (fX8_clear 32 a g) (x9_clear a r) := by
  refine (m_clear h.ci h.2).mono (fun q hq => ?_)
  by_cases c : rcN a
  · rw [pif_pos c] at hq
    have hS := hq.2.1
    refine ⟨(r_clear2 h.ri.2.1).mono (fun p hp => ?_), by rw [hS.2.1]; omega, by rw [hS.2.2.1]; omega⟩
    rw [pif_pos c] at hp
    exact ⟨h.ee hq.2 hp.2, by show q.1 = p.1; rw [t_eq, hq.1, hp.1]⟩
  · rw [pif_neg c] at hq
    rw [hq]
    refine ⟨(r_clear2 h.ri.2.1).mono (fun p hp => ?_), by show qn g ≤ _; omega, by show qs g ≤ _; omega⟩
    rw [pif_neg c] at hp
    rw [hp]
    exact ⟨h, rfl⟩
theorem j_load {n : Int32} {g : CS} {r : RS} (h : IJ g r) : Jc g (fun x y => x = y) (fX8_load 32 n g) (x9_load n r) := by
  refine (m_load h.ci h.tp).mono (fun q hq => ?_)
  by_cases c : rcN n ∧ tpK r ≤ 120
  · rw [pif_pos c] at hq
    obtain ⟨u, hu, e, e0⟩ := hq
    rw [e]
    refine ⟨(r_load3 h.ri).mono (fun p hp => ?_), by show qn u ≤ _; rw [hu.1.2.1]; omega, by show qs u ≤ _; rw [hu.1.2.2.1]; omega⟩
    rw [pif_pos c] at hp
    obtain ⟨v, hv, e2, e3⟩ := hp
    rw [e2]
    have h2 := h.ee hu hv
    exact ⟨h2.t (n := 0) (by decide) (by show (0 : Int) ≤ _; exact h2.ri.2.2.1), by show q.1 = p.1; rw [t_eq, e0, e3]⟩
  · rw [pif_neg c] at hq
    rw [hq]
    refine ⟨(r_load3 h.ri).mono (fun p hp => ?_), by show qn g ≤ _; omega, by show qs g ≤ _; omega⟩
    rw [pif_neg c] at hp
    rw [hp]
    exact ⟨h, rfl⟩
theorem j_say {a b c : Int32} {g : CS} {r : RS} (h : IJ g r) : Jc g (fun x y => x = y) (fX8_say 32 a b c g) (x9_say a b c r) := by
  refine (m_say h.ir h.2 h.ri.2.1 h.tp).mono (fun q hq => ?_)
  obtain ⟨u, hA, e⟩ := hq
  have hS := hA.sf
  have hA1 : q.1.toInt = _ := hA.1
  rw [e]
  refine ⟨(r_say2 h.ri h.ir.gr).mono (fun p hp => ⟨?_, by show q.1 = p.1; rw [t_eq, hA1, hp.1]⟩), by show qn u ≤ _; rw [hS.2.1]; omega, by show qs u ≤ _; rw [hS.2.2.1]; omega⟩
  have h2 : IJ0 (wI u 33 1 0) (sI r 10 0) := (h.1.c hS).t (n := 0) (by decide) (by show (0 : Int) ≤ _; exact h.ri.2.2.1)
  by_cases e' : (sayS r a b c).2 = none
  · have hC := hA.2.1 e'
    have hR := hp.2.1 e'
    exact ⟨h2.r hR.1, h.2.same (fun i i1 i2 => (qI_wo (by omega)).trans (hC.2 i i1 i2)) hR.2.1 hR.2.2⟩
  · obtain ⟨⟨o, W⟩, e2⟩ := Option.ne_none_iff_exists'.mp e'
    have hC := (hA.2.2 o W e2).2
    have hR := hp.2.2 o W e2
    have h3 : RcE u p.2 := h.2.ek h.ri.2.1 hC hR.2.1 hR.2.2
    exact ⟨h2.r hR.1, h3.same (fun i i1 i2 => qI_wo (by omega)) rfl rfl⟩
theorem j_set {a m n : Int32} {v : Int64} {g : CS} {r : RS} (h : IJ g r) : Jc g (fun x y => x = y) (fX8_set 32 a m n v g) (x9_set a m n v r) := jc_a h (m_set h.ir h.2 h.ri.2.1) (r_set2 h.ri h.ir.gr)
theorem j_nest {a m n o : Int32} {g : CS} {r : RS} (h : IJ g r) : Jc g (fun x y => x = y) (fX8_nest 32 a m n o g) (x9_nest a m n o r) := jc_a h (m_nest h.ir h.2 h.ri.2.1) (r_nest2 h.ri h.ir.gr)
theorem j_drop {a m n : Int32} {g : CS} {r : RS} (h : IJ g r) : Jc g (fun x y => x = y) (fX8_drop 32 a m n g) (x9_drop a m n r) := jc_a h (m_drop h.ir h.2 h.ri.2.1) (r_drop2 h.ri h.ir.gr)
theorem j_read {a m : Int32} {g : CS} {r : RS} (h : IJ g r) : Jc g (fun x y => x = y) (fX8_read 32 a m g) (x9_read a m r) := (m_read h.ir h.2 h.ri.2.1).mono (fun q hq => by
  obtain ⟨q1, q2, q3, q4⟩ := hq
  have hin : ∀ i, i ∈ 32 :: rdL → i ∈ 32 :: cfL := fun i hi => by
    rcases List.mem_cons.mp hi with w | w
    · rw [w]; exact List.mem_cons_self
    · exact List.mem_cons_of_mem _ (rdL_in i w)
  have h0 := h.1.rd q2 (q3.wk hin) q4
  refine ⟨(r_read2 h.ri).mono (fun p hp => ⟨⟨h0.r hp.2.1, h.2.same (fun i i1 i2 => q3.i (fun w => ?_)) hp.2.2.1 hp.2.2.2⟩, by show q.1 = p.1; rw [t_eq, q1, hp.1]⟩), by rw [q3.1]; omega, by rw [q3.2.1]; omega⟩
  rcases List.mem_cons.mp w with w | w
  · omega
  · have := rdL_r i w
    omega)
theorem j_get {a m n w : Int32} {g : CS} {r : RS} (h : IJ g r) : Jc g (fun _ _ => True) (fX8_get 32 a m n w g) (x9_get a m n w r) := (m_get h.ir h.2 h.ri.2.1).mono (fun q hq => ⟨(r_get2 h.ri).mono (fun p hp => ⟨h.kk hq hp, trivial⟩), by rw [hq.1.2.1]; omega, by rw [hq.1.2.2.1]; omega⟩)
theorem j_kept {a m : Int32} {g : CS} {r : RS} (h : IJ g r) : Jc g (fun x y => x = y) (fX8_kept 32 a m g) (x9_kept a m r) := jc_a h (m_kept h.ir h.2 h.ri.2.1) (r_kept2 h.ri)
theorem j_write {a m o : Int32} {g : CS} {r : RS} (h : IJ g r) : Jc g (fun x y => x = y) (fX8_write 32 a m o g) (x9_write a m o r) := jc_a h (m_write h.ir h.2 h.ri.2.1) (r_write2 h.ri)
theorem j_at {a i : Int32} {g : CS} {r : RS} (h : IJ g r) : Jc g (fun x y => x = y) (fX8_at 32 a i g) (x9_at a i r) := jc_id _ _ h (m_at h.ci h.2) (r_at2 h.ri.2.1) rfl
theorem j_open {a m n o : Int32} {g : CS} {r : RS} (h : IJ g r) : Jc g (fun x y => x = y) (fX8_open 32 a m n o g) (x9_open a m n o r) := jc_a h (m_open h.ir h.2 h.ri.2.1) (r_open2 h.ri)
/-- along three makes, on both sides -/
theorem j_look {a b c : Int32} {g : CS} {r : RS} (h : IJ g r) : Jc g (fun x y => x = y) (fX8_lookAlong 32 a b c g) (x9_walk a b c r) := by
  refine (m_look h.1.w).mono (fun q hq => ?_)
  by_cases cm : mkN r a ∧ mkN r b ∧ mkN r c
  · rw [pif_pos cm] at hq
    obtain ⟨t, t1, t2, v, u, u1, u2, u3, u4, u5⟩ := hq
    have hC1 : CI t := h.ci.ob t1 (by decide)
    have hF2 : Cf [32] t (wI t 32 11 v) := Cf.rf.wI (by simp)
    have hC2 : CI (wI t 32 11 v) := hC1.ob hF2 (by decide)
    have hC3 : CI q.2 := hC2.ob u1 (by decide)
    have e33 : qI q.2 33 = qI g 33 := by rw [u1.i (by decide), hF2.i (by decide), t1.i (by decide)]
    have e34 : qI q.2 34 = qI g 34 := by rw [u1.i (by decide), hF2.i (by decide), t1.i (by decide)]
    have eP : qP q.2 = qP g := by rw [u1.2.2.2.2.1, hF2.2.2.2.2.1, t1.2.2.2.2.1]
    have e11 : qI q.2 32 11 = v := by rw [u1.i (by decide), qI_wI, if_pos rfl, if_pos rfl]
    have en : qn q.2 = qn g := by rw [u1.1, hF2.1, t1.1]
    have es : qs q.2 = qs g := by rw [u1.2.1, hF2.2.1, t1.2.1]
    obtain ⟨⟨⟨h1, h2, h3, h4, h5⟩, h6⟩, h7, h8⟩ := id h.1
    have eR : ∀ i, 36 ≤ i → i < 44 → qI q.2 i = qI g i := fun i i1 i2 => by rw [u1.i (by simp; omega), hF2.i (by simp; omega), t1.i (by simp; omega)]
    have hI : IM q.2 r := ⟨⟨hC3, h2, ⟨by rw [e33]; exact h3.1, fun j hj => by rw [e34]; exact h3.2 j hj⟩, fun j hj => by rw [eP]; exact h4 j hj, h5⟩, ((h6.cf (S := [71]) (by simp) t1).cf (S := [32]) (by simp) hF2).cf (S := [71]) (by simp) u1⟩
    refine ⟨(r_walk2 h2).mono (fun p hp => ?_), by omega, by omega⟩
    rw [pif_pos cm] at hp
    obtain ⟨w, x, w1, w2, w3, w4, w5⟩ := hp
    have hI2 := hI.r w2
    rw [w1]
    refine ⟨⟨⟨⟨⟨hI2.1.1, hI2.1.2.1, hI2.1.2.2.1, hI2.1.2.2.2.1, hI2.1.2.2.2.2⟩, hI2.2⟩, (u2.r h2.1 (sam_of (kp_10 w2))).r hI2.1.2.1.1 (sam_of (fun _ _ _ => ⟨rfl, rfl⟩)), ?_⟩, h.2.same eR w3.1 w3.2.1⟩, ?_⟩
    · rw [e11]
      show v = x
      rw [t_eq, u3, w5]
    · rw [u4]
      show u = p.1
      rw [t_eq, u5, w4]
  · rw [pif_neg cm] at hq
    rw [hq]
    refine ⟨(r_walk2 h.ri).mono (fun p hp => ?_), by show qn g ≤ _; omega, by show qs g ≤ _; omega⟩
    rw [pif_neg cm] at hp
    rw [hp]
    exact ⟨h, rfl⟩
theorem Jc.ret {g : CS} {E : Int32 → Int32 → Prop} {x : Option (Int32 × CS)} {y : Option (Int32 × RS)} (h : Jc g E x y) : Jc g E (bnd x (fun a t => some (a, t))) y := Ok.call h (fun a t ht => by rw [Ok_some]; exact ht)
theorem Jc.ret2 {g : CS} {E : Int32 → Int32 → Prop} {x : Option (Int32 × CS)} {y : Option (Int32 × RS)} (h : Jc g E x y) : Jc g E x (bnd y (fun a t => some (a, t))) := h.mono (fun q hq => ⟨Ok.call hq.1 (fun a t ht => by rw [Ok_some]; exact ht), hq.2⟩)
theorem j_step {a b : Int32} {g : CS} {r : RS} (h : IJ g r) : Jc g (fun x y => x = y) (fX8_step 32 a b g) (x9_step a b r) := by
  unfold fX8_step x9_step Jc
  rw [Ok_gd]
  exact ⟨h.k32, (j_look h).ret.ret2⟩
theorem j_walk {a b c : Int32} {g : CS} {r : RS} (h : IJ g r) : Jc g (fun x y => x = y) (fX8_walk 32 a b c g) (x9_walk a b c r) := by
  unfold fX8_walk Jc
  rw [Ok_gd]
  exact ⟨h.k32, (j_look h).ret⟩
theorem j_readers {m : Int32} {g : CS} {r : RS} (h : IJ g r) : Jc g (fun x y => x = y) (fX8_readers 32 m g) (x9_readers m r) := by
  refine (m_readers h.1.w).mono (fun q hq => ?_)
  by_cases cm : mkN r m
  · rw [pif_pos cm] at hq
    obtain ⟨q1, q2, q3⟩ := hq
    obtain ⟨⟨⟨h1, h2, h3, h4, h5⟩, h6⟩, h7, h8⟩ := id h.1
    have hI : IM q.2 r := ⟨⟨h1.ob q1 (by decide), h2, ⟨by rw [q1.i (by decide)]; exact h3.1, fun j hj => by rw [q1.i (by decide)]; exact h3.2 j hj⟩, fun j hj => by rw [q1.p]; exact h4 j hj, h5⟩, h6.cf (S := [71]) (by simp) q1⟩
    have hJ : IJ0 q.2 r := ⟨hI, q2, by rw [q1.i (by decide)]; exact h8⟩
    refine ⟨(r_readers2 h2).mono (fun p hp => ?_), by rw [q1.1]; omega, by rw [q1.2.1]; omega⟩
    rw [pif_pos cm] at hp
    exact ⟨⟨hJ.r hp.1, h.2.same (fun i i1 i2 => q1.i (by simp; omega)) hp.2.1.1 hp.2.1.2.1⟩, by show q.1 = p.1; rw [t_eq, q3, hp.2.2]⟩
  · rw [pif_neg cm] at hq
    rw [hq]
    refine ⟨(r_readers2 h.ri).mono (fun p hp => ?_), by show qn g ≤ _; omega, by show qs g ≤ _; omega⟩
    rw [pif_neg cm] at hp
    rw [hp]
    exact ⟨h, rfl⟩
