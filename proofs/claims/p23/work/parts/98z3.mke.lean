/-! both sides keep the same of each make -/
/-- the field H of the class is the field F of the reference -/
def EqF (g : CS) (H : Nat) (r : RS) (F n : Nat) : Prop := (qk g H = 3 ∧ 106 ≤ H ∧ H < qn g) ∧ (qI g H 0).toInt = n ∧ (qI g H 1 = gF r 1 F ∧ 0 ≤ (gF r 1 F).toInt ∧ (gF r 1 F).toInt ≤ 6 ∧ 0 ≤ (gF r 2 F).toInt) ∧ qI g H 2 = gF r 2 F ∧ (gF r 1 F = 6 → qI g H 3 = gF r 3 F) ∧ (gF r 1 F ≠ 6 → qI g H 3 = -1) ∧ (∃ s fn, qP g H 4 = some s ∧ StC fn 0 (gF r 4 F).toInt.toNat s g ∧ 0 ≤ (gF r 4 F).toInt) ∧ (∃ s l, qP g H 5 = some s ∧ StC (fun k => gF r 7 (12 * F + k)) 0 l s g ∧ (gF r 1 F = 5 → (l : Int) = (gL r 6 F).toInt ∧ l ≤ 12) ∧ (gF r 1 F ≠ 5 → l = 0)) ∧ (gF r 1 F = 5 ∨ gF r 1 F = 0 → (qJ g H 6).toInt = 0) ∧ (gF r 1 F ≠ 5 → gF r 1 F ≠ 0 → qJ g H 6 = gL r 6 F ∧ (gF r 1 F = 6 → (gL r 6 F).toInt = 0))
/-- the reference's field as it was -/
def SaF (r t : RS) (F : Nat) : Prop := gF t 1 F = gF r 1 F ∧ gF t 2 F = gF r 2 F ∧ gF t 3 F = gF r 3 F ∧ gF t 4 F = gF r 4 F ∧ gL t 6 F = gL r 6 F ∧ gF t 8 F = gF r 8 F ∧ ∀ k, k < 12 → gF t 7 (12 * F + k) = gF r 7 (12 * F + k)
theorem EqF.r {g : CS} {H F n : Nat} {r t : RS} (h : EqF g H r F n) (hs : SaF r t F) : EqF g H t F n := by
  obtain ⟨a1, a2, a3, a4, a5, a6, ⟨s, fn, a7, a8⟩, ⟨s', l, b1, b2, b3, b4⟩, a9, a10⟩ := h
  obtain ⟨c1, c2, c3, c4, c5, c6, c7⟩ := hs
  unfold EqF
  rw [c1, c2, c3, c4, c5]
  refine ⟨a1, a2, a3, a4, a5, a6, ⟨s, fn, a7, a8⟩, ⟨s', l, b1, b2.of (fun j hj => ?_), b3, b4⟩, a9, a10⟩
  have hl : l ≤ 12 := by
    by_cases q : gF r 1 F = 5
    · exact (b3 q).2
    · rw [b4 q]; omega
  rw [Nat.zero_add]
  exact (c7 j (by omega)).symm
theorem StC.cf {f : Nat → Int32} {a l s : Nat} {S : List Nat} {g t : CS} (hS : ∀ i, i ∈ S → 32 ≤ i ∧ i < 76) (h : StC f a l s g) (hF : Cf S g t) : StC f a l s t := by
  obtain ⟨h0, c, c1, c2, c3, c4⟩ := h
  have h0' := h0.fs hS hF
  obtain ⟨s1, s2, s3, c0, s4, s5, s6, s7⟩ := h0
  have e1 : c0 = c := by rw [s4] at c1; cases c1; rfl
  subst e1
  have el : lb t = lb g := by unfold lb; rw [hF.p]
  exact ⟨h0', c0, by rw [hF.p]; exact s4, by rw [hF.l]; exact c2, fun j hj => by rw [hF.i (fun q => by have := hS c0 q; omega)]; exact c3 j hj, by rw [el]; exact c4⟩
theorem EqF.cf {g t : CS} {H F n : Nat} {r : RS} {S : List Nat} (hS : ∀ i, i ∈ S → 32 ≤ i ∧ i < 76) (h : EqF g H r F n) (hF : Cf S g t) : EqF t H r F n := by
  obtain ⟨⟨a0, a0', a0''⟩, a2, a3, a4, a5, a6, ⟨s, fn, a7, a8, a8'⟩, ⟨s', l, b1, b2, b3, b4⟩, a9, a10⟩ := h
  have hn : H ∉ S := fun q => by have := hS H q; omega
  unfold EqF
  rw [hF.k, hF.i hn, hF.j hn, hF.p, hF.1]
  exact ⟨⟨a0, a0', a0''⟩, a2, a3, a4, a5, a6, ⟨s, fn, a7, a8.cf hS hF, a8'⟩, ⟨s', l, b1, b2.cf hS hF, b3, b4⟩, a9, a10⟩
theorem EqF.tf {A B : Int} {g t : CS} {H F n : Nat} {r : RS} (h : EqF g H r F n) (hT : Tf 46 A B g t) (h5 : qk g 45 = 9) (hL : LwI g) : EqF t H r F n := by
  obtain ⟨⟨a0, a0', a0''⟩, a2, a3, a4, a5, a6, ⟨s, fn, a7, a8, a8'⟩, ⟨s', l, b1, b2, b3, b4⟩, a9, a10⟩ := h
  obtain ⟨⟨t1, t2⟩, t3, t4, t5, -, -⟩ := id hT
  have l4 := hL.2.2.2.1
  have n4 : H ≠ lb g := fun q => by rw [q, l4] at a0; cases a0
  have eP : qP t H = qP g H := t5 H (by omega) (by omega) (by omega)
  have eI := t4 H (by omega) (by omega) (by omega) (by omega) n4
  unfold EqF
  rw [(t3 H (by omega)).1, eI.1, eI.2, eP]
  exact ⟨⟨a0, a0', by omega⟩, a2, a3, a4, a5, a6, ⟨s, fn, a7, a8.fr hT h5 hL Wr.n, a8'⟩, ⟨s', l, b1, b2.fr hT h5 hL Wr.n, b3, b4⟩, a9, a10⟩
/-- a make of the class, mk, is the make j of the reference -/
def EqM (g : CS) (mk : Nat) (r : RS) (j : Nat) : Prop := ∃ ar, qP g mk 0 = some ar ∧ (qk g mk = 4 ∧ 106 ≤ mk ∧ mk < qn g) ∧ (qk g ar = 26 ∧ 106 ≤ ar ∧ ar < qn g) ∧ ql g ar = 31 ∧ (∀ n, n < 31 → (qP g ar n ≠ none ↔ gF r 8 (31 * j + n) ≠ 0)) ∧ gF r 8 (31 * j) = 0 ∧ ∀ n H, n < 31 → qP g ar n = some H → EqF g H r (31 * j + n) n
def MkE (g : CS) (r : RS) : Prop := ∀ j, j < 8 → ∀ mk, qP g 44 j = some mk → EqM g mk r j
theorem EqM.r {g : CS} {mk j : Nat} {r t : RS} (h : EqM g mk r j) (hs : ∀ n, n < 31 → SaF r t (31 * j + n)) : EqM g mk t j := by
  obtain ⟨ar, h1, h2, h3, h4, h5, h6, h7⟩ := h
  exact ⟨ar, h1, h2, h3, h4, fun n hn => by rw [(hs n hn).2.2.2.2.2.1]; exact h5 n hn, by have := (hs 0 (by omega)).2.2.2.2.2.1; rw [Nat.add_zero] at this; rw [this]; exact h6, fun n H hn hH => (h7 n H hn hH).r (hs n hn)⟩
theorem EqM.cf {g t : CS} {mk j : Nat} {r : RS} {S : List Nat} (hS : ∀ i, i ∈ S → 32 ≤ i ∧ i < 76) (h : EqM g mk r j) (hF : Cf S g t) : EqM t mk r j := by
  obtain ⟨ar, h1, h2, h3, h4, h5, h6, h7⟩ := h
  exact ⟨ar, by rw [hF.p]; exact h1, by rw [hF.k, hF.1]; exact h2, by rw [hF.k, hF.1]; exact h3, by rw [hF.l]; exact h4, fun n hn => by rw [hF.p]; exact h5 n hn, h6, fun n H hn hH => (h7 n H hn (by rw [← hF.p]; exact hH)).cf hS hF⟩
theorem EqM.tf {A B : Int} {g t : CS} {mk j : Nat} {r : RS} (h : EqM g mk r j) (hT : Tf 46 A B g t) (h5 : qk g 45 = 9) (hL : LwI g) : EqM t mk r j := by
  obtain ⟨ar, h1, ⟨h2, h2', h2''⟩, ⟨h3, h3', h3''⟩, h4, h6, h7, h8⟩ := h
  obtain ⟨⟨t1, t2⟩, t3, t4, t5, -, -⟩ := id hT
  have eP : qP t mk = qP g mk := t5 mk (by omega) (by omega) (by omega)
  have eA : qP t ar = qP g ar := t5 ar (by omega) (by omega) (by omega)
  exact ⟨ar, by rw [eP]; exact h1, ⟨by rw [(t3 mk (by omega)).1]; exact h2, h2', by omega⟩, ⟨by rw [(t3 ar (by omega)).1]; exact h3, h3', by omega⟩, by rw [(t3 ar (by omega)).2]; exact h4, fun n hn => by rw [eA]; exact h6 n hn, h7, fun n H hn hH => (h8 n H hn (by rw [← eA]; exact hH)).tf hT h5 hL⟩
theorem MkE.cf {g t : CS} {r : RS} {S : List Nat} (hS : ∀ i, i ∈ S → 32 ≤ i ∧ i < 76) (h : MkE g r) (hF : Cf S g t) : MkE t r := fun j hj mk hm => (h j hj mk (by rw [← hF.p]; exact hm)).cf hS hF
theorem cfL_s : ∀ i, i ∈ cfL → 32 ≤ i ∧ i < 76 := fun i hi => ⟨(cfL_r i hi).1, (cfL_r i hi).2.1⟩
theorem MkE.c {g t : CS} {r : RS} (h : MkE g r) (hS : Sf g t) : MkE t r := h.cf cfL_s hS.2
theorem MkE.r {g : CS} {r t : RS} (h : MkE g r) (hK : ∀ k, k ≠ 9 → k < 10 → gF t k = gF r k ∧ gL t k = gL r k) : MkE g t := fun j hj mk hm => (h j hj mk hm).r (fun n _ => ⟨by rw [(hK 1 (by decide) (by decide)).1], by rw [(hK 2 (by decide) (by decide)).1], by rw [(hK 3 (by decide) (by decide)).1], by rw [(hK 4 (by decide) (by decide)).1], by rw [(hK 6 (by decide) (by decide)).2], by rw [(hK 8 (by decide) (by decide)).1], fun k _ => by rw [(hK 7 (by decide) (by decide)).1]⟩)
theorem MkE.kp {g : CS} {r t : RS} (h : MkE g r) (hK : Kp r t) : MkE g t := h.r (fun k h9 h10 => hK.1.2 k (fun q => by simp [kpF] at q; omega))
/-- the make that was told -/
theorem MbI.eq {f : Nat → Int32} {L : List FdT} {mk ar m : Nat} {T : Nat → Prop} {g : CS} {r : RS} (h : MbI f L mk ar g) (hr : RfI f m T L r) : EqM g mk r m := by
  obtain ⟨h1, h2, h3, h4, h5, h6, h7⟩ := h
  refine ⟨ar, h3, h1, h2, h4, fun n hn => by rw [h6 n hn]; exact (hr.1 n hn).symm, ?_, fun n H hn hH => ?_⟩
  · refine Classical.byContradiction (fun q => ?_)
    obtain ⟨y, y1, y2⟩ := (hr.1 0 (by omega)).mp (by rw [Nat.add_zero]; exact q)
    obtain ⟨H, -, -, ⟨y4, -⟩, -⟩ := h7 y y1
    omega
  · obtain ⟨y, y1, y2⟩ := (h6 n hn).mp (by rw [hH]; exact fun q => by cases q)
    obtain ⟨H', k1, k2⟩ := h7 y y1
    rw [y2, hH] at k1
    cases k1
    obtain ⟨a1, ⟨a2, a2', a2''⟩, a3, a4, a5, a6, ⟨s, a7, a8⟩, ⟨s', l, a9, a10, a11, a11'⟩, a12, a12'⟩ := k2
    obtain ⟨b1, b2, b3, b4, b5, b6, b7, b8, b9⟩ := hr.2.1 y y1
    rw [y2] at b3 b4 b5 b8 b9
    have e1 : qI g H 1 = gF r 1 (31 * m + n) := by rw [t_eq, a4, b3]
    have k6 : gF r 1 (31 * m + n) = 6 ↔ fKd y = 6 := by rw [t_eq, b3, show (6 : Int32).toInt = 6 from rfl]; omega
    have k5 : gF r 1 (31 * m + n) = 5 ↔ fKd y = 5 := by rw [t_eq, b3, show (5 : Int32).toInt = 5 from rfl]; omega
    have k0 : gF r 1 (31 * m + n) = 0 ↔ fKd y = 0 := by rw [t_eq, b3, show (0 : Int32).toInt = 0 from rfl]; omega
    refine ⟨a1, by rw [a3, y2], ⟨e1, by omega, by omega, by omega⟩, by rw [t_eq, a5, b4], fun q => ?_, fun q => ?_, ⟨s, fun k => f (fNa y + k), a7, ?_, by omega⟩, ⟨s', l, a9, a10.of (fun j hj => ?_), fun q => ?_, fun q => a11' (fun w => q (k5.mpr w))⟩, fun q => ?_, fun q w => ?_⟩
    · have q := k6.mp q
      rw [t_eq, a6]
      exact ((b9 (by omega)).1).symm
    · rw [t_eq, a6, a2' (fun w => q (k6.mpr w))]; rfl
    · rw [b5, Int.toNat_natCast]
      exact a8.of (fun j _ => by rw [Nat.zero_add])
    · by_cases q5 : fKd y = 5
      · have q1 := a11 q5
        obtain ⟨d1, d2, d3, d4⟩ := b9 (by omega)
        obtain ⟨d5, d6, d7⟩ := d4 q5
        rw [Nat.zero_add]
        exact (d7 j (by omega)).symm
      · rw [a11' q5] at hj
        exact absurd hj (by omega)
    · have q5 := k5.mp q
      have q1 := a11 q5
      obtain ⟨d1, d2, d3, d4⟩ := b9 (by omega)
      obtain ⟨d5, d6, d7⟩ := d4 q5
      exact ⟨by omega, by omega⟩
    · rcases q with q | q
      · exact a12' (k5.mp q)
      · have q0 := k0.mp q
        rw [a12 (by omega)]; exact a2'' (Or.inl q0)
    · have q5 : fKd y ≠ 5 := fun z => q (k5.mpr z)
      obtain ⟨d1, d2, d3, d4⟩ := b9 (fun z => w (k0.mpr z))
      exact ⟨by rw [j_eq, a12 q5, d3], fun z => by rw [d3]; exact a2'' (Or.inr (k6.mp z))⟩
