/-! the class's world when other fixed ids change -/
theorem StO.fs {S : List Nat} {g t : CS} {s : Nat} (hS : ∀ i, i ∈ S → 32 ≤ i ∧ i < 76) (h : StO g s) (hF : Cf S g t) : StO t s := by
  obtain ⟨h1, h2, h3, b, h4, h5, h6, h7⟩ := h
  refine ⟨by rw [hF.k]; exact h1, by rw [hF.1]; exact h2, ?_, b, by rw [hF.p]; exact h4, by rw [hF.k]; exact h5, by rw [hF.l]; exact h6, by rw [hF.1]; exact h7⟩
  rw [hF.i (fun q => by have := hS s q; omega)]
  exact h3
theorem FdO.fs {S : List Nat} {g t : CS} {s : Nat} (hS : ∀ i, i ∈ S → 32 ≤ i ∧ i < 76) (h : FdO g s) (hF : Cf S g t) : FdO t s := by
  obtain ⟨h1, h2, h0, ⟨a, h3, h4⟩, b, h5, h6⟩ := h
  exact ⟨by rw [hF.k]; exact h1, by rw [hF.1]; exact h2, by rw [hF.i (fun q => by have := hS s q; omega)]; exact h0, ⟨a, by rw [hF.p]; exact h3, h4.fs hS hF⟩, b, by rw [hF.p]; exact h5, h6.fs hS hF⟩
theorem MkO.fs {S : List Nat} {g t : CS} {s : Nat} (hS : ∀ i, i ∈ S → 32 ≤ i ∧ i < 76) (h : MkO g s) (hF : Cf S g t) : MkO t s := by
  obtain ⟨h1, h2, a, h3, h4, h5, h6, h7⟩ := h
  exact ⟨by rw [hF.k]; exact h1, by rw [hF.1]; exact h2, a, by rw [hF.p]; exact h3, by rw [hF.k]; exact h4, by rw [hF.l]; exact h5, by rw [hF.1]; exact h6, fun n hn f hf => (h7 n hn f (by rw [← hF.p]; exact hf)).fs hS hF⟩
theorem CI.fs {S : List Nat} {g t : CS} (hS : ∀ i, i ∈ S → 32 ≤ i ∧ i < 76) (h46 : 46 ∉ S) (h47 : 47 ∉ S) (h : CI g) (hF : Cf S g t) (h33 : RowI t 33 400) (hR : Rows t) : CI t := by
  obtain ⟨h1, h2, h3, h4, h5, h6, h7, h8, h9, -⟩ := h
  have ek := hF.2.2.1
  have el := hF.2.2.2.1
  have ep := hF.2.2.2.2.1
  refine ⟨?_, ?_, ?_, ?_, ?_, ?_, ?_, ?_, h33, hR⟩
  · unfold CI1 at *; rw [ek, ep]; exact h1
  · unfold CI2 at *; rw [ek, ep, el]; exact h2
  · exact ⟨by rw [ek]; exact h3.1, by rw [el]; exact h3.2.1, fun j hj m hm => (h3.2.2 j hj m (by rw [← ep]; exact hm)).fs hS hF⟩
  · unfold CI4 at *; rw [ek, ep, el]; exact h4
  · unfold CI5 at *; rw [ek, ep, el]; exact h5
  · unfold CI6 at *; rw [ek, ep, el]; exact h6
  · obtain ⟨a1, a2, a3, a4, a5, a6, b, a7, a8, a9, a10, a11, a12, a13, a14, a15⟩ := h7
    have eb : qI t b = qI g b := hF.i (fun q => by
      have := hS b q
      rcases a13 with e | e
      · rw [e] at q; exact h47 q
      · omega)
    unfold CI7
    rw [ek, ep, el, hF.1, hF.i h46]
    exact ⟨a1, a2, a3, a4, a5, a6, b, a7, a8, a9, a10, a11, a12, a13, a14, by rw [eb]; exact a15⟩
  · refine ⟨by rw [hF.1]; exact h8.1, fun i hi => ?_⟩
    obtain ⟨a1, a2, a3, a4, a5, a6⟩ := h8.2 i hi
    refine ⟨by rw [ek]; exact a1, by rw [ep]; exact a2, ?_, by rw [ek]; exact a4, by rw [el]; exact a5, ?_⟩
    · rw [hF.i (fun q => by have := hS i q; omega)]; exact a3
    · rw [hF.i (fun q => by have := hS (9 + i) q; omega)]; exact a6
theorem CI.tape {g : CS} (h : CI g) : RowI g 33 400 := h.2.2.2.2.2.2.2.2.1
theorem CI.tp {g t : CS} (h : CI g) (hF : Cf [33, 34] g t) (h33 : RowI t 33 400) : CI t := by
  obtain ⟨a1, a2, a3, a4, a5, a6, a7⟩ := h.2.2.2.2.2.2.2.2.2
  exact h.fs (S := [33, 34]) (by simp) (by simp) (by simp) hF h33 ⟨a1.fr hF (by simp), a2.fr hF (by simp), a3.fr hF (by simp), a4.fr hF (by simp), a5.fr hF (by simp), a6.fr hF (by simp), a7.fr hF (by simp)⟩
theorem Int32_shr24 (w : Int32) : (w >>> 24) &&& 255 = ((w.toUInt32 >>> ((24 : Int32).toUInt32 &&& Int32.toUInt32 31)).toInt32) &&& 255 := by
  apply Int32.toBitVec_inj.mp
  show (w.toBitVec.sshiftRight 24) &&& 255#32 = (w.toBitVec >>> 24) &&& 255#32
  apply BitVec.eq_of_getLsbD_eq
  intro i hi
  rw [BitVec.getLsbD_and, BitVec.getLsbD_and, BitVec.getLsbD_sshiftRight, BitVec.getLsbD_ushiftRight]
  by_cases c : i < 8
  · simp [show 24 + i < 32 by omega, show ¬ 32 ≤ i by omega]
  · have e : (255#32).getLsbD i = false := by
      have : ∀ j, j < 32 → 8 ≤ j → (255#32).getLsbD j = false := by decide
      exact this i hi (by omega)
    rw [e, Bool.and_false, Bool.and_false]
theorem Int32_shr16 (w : Int32) : (w >>> 16) &&& 255 = ((w.toUInt32 >>> ((16 : Int32).toUInt32 &&& Int32.toUInt32 31)).toInt32) &&& 255 := by
  apply Int32.toBitVec_inj.mp
  show (w.toBitVec.sshiftRight 16) &&& 255#32 = (w.toBitVec >>> 16) &&& 255#32
  apply BitVec.eq_of_getLsbD_eq
  intro i hi
  rw [BitVec.getLsbD_and, BitVec.getLsbD_and, BitVec.getLsbD_sshiftRight, BitVec.getLsbD_ushiftRight]
  by_cases c : i < 8
  · simp [show 16 + i < 32 by omega, show ¬ 32 ≤ i by omega]
  · have e : (255#32).getLsbD i = false := by
      have : ∀ j, j < 32 → 8 ≤ j → (255#32).getLsbD j = false := by decide
      exact this i hi (by omega)
    rw [e, Bool.and_false, Bool.and_false]
theorem Int32_shr8 (w : Int32) : (w >>> 8) &&& 255 = ((w.toUInt32 >>> ((8 : Int32).toUInt32 &&& Int32.toUInt32 31)).toInt32) &&& 255 := by
  apply Int32.toBitVec_inj.mp
  show (w.toBitVec.sshiftRight 8) &&& 255#32 = (w.toBitVec >>> 8) &&& 255#32
  apply BitVec.eq_of_getLsbD_eq
  intro i hi
  rw [BitVec.getLsbD_and, BitVec.getLsbD_and, BitVec.getLsbD_sshiftRight, BitVec.getLsbD_ushiftRight]
  by_cases c : i < 8
  · simp [show 8 + i < 32 by omega, show ¬ 32 ≤ i by omega]
  · have e : (255#32).getLsbD i = false := by
      have : ∀ j, j < 32 → 8 ≤ j → (255#32).getLsbD j = false := by decide
      exact this i hi (by omega)
    rw [e, Bool.and_false, Bool.and_false]
/-- the k-th byte of a word, the highest first -/
def wby (w : Int32) (k : Nat) : Int32 := if k = 0 then (w >>> 24) &&& 255 else if k = 1 then (w >>> 16) &&& 255 else if k = 2 then (w >>> 8) &&& 255 else w &&& 255
/-- a word came behind the tape -/
def PwP (g : CS) (w : Int32) (t : CS) : Prop := Cf [33, 34] g t ∧ RowI t 33 400 ∧ (qI t 33 1).toInt = (qI g 33 1).toInt + 4 ∧ (∀ k, k < 4 → qI t 34 ((qI g 33 1).toNatClampNeg + k) = wby w k) ∧ ∀ j, j < (qI g 33 1).toNatClampNeg → qI t 34 j = qI g 34 j
theorem c_push1 {g : CS} {b : Int32} (h : RowI g 33 400) (hs : (qI g 33 1).toInt < 400) : Ok (fX5_push 33 b g) (fun t => Cf [33, 34] g t ∧ RowI t 33 400 ∧ (qI t 33 1).toInt = (qI g 33 1).toInt + 1 ∧ qI t 34 (qI g 33 1).toNatClampNeg = b &&& 255 ∧ ∀ j, j < (qI g 33 1).toNatClampNeg → qI t 34 j = qI g 34 j) := by
  refine (c_push h).mono (fun t ht => ⟨ht.1, ht.2.1, ?_, ?_, fun j hj => ?_⟩)
  · rw [ht.2.2.1 hs, qI_wI, if_pos rfl, if_pos rfl]
    have := h.2.2.2.2.1
    exact inc (by omega) (by omega)
  · rw [ht.2.2.1 hs, qI_wI, if_neg (by decide), qI_wI, if_pos rfl, if_pos rfl]
  · rw [ht.2.2.1 hs, qI_wI, if_neg (by decide), qI_wI, if_pos rfl, if_neg (by omega)]
theorem c_pushWord {g : CS} {w : Int32} (h : RowI g 33 400) (hs : (qI g 33 1).toInt + 4 ≤ 400) : Ok (fX5_pushWord 33 w g) (PwP g w) := by
  have hn := h.2.2.2.2.1
  unfold fX5_pushWord
  rw [Ok_gd]
  refine ⟨h.1, Ok.callv (c_push1 h (by omega)) (fun a ha => ?_)⟩
  obtain ⟨a1, a2, a3, a4, a5⟩ := ha
  refine Ok.callv (c_push1 a2 (by omega)) (fun b hb => ?_)
  obtain ⟨b1, b2, b3, b4, b5⟩ := hb
  refine Ok.callv (c_push1 b2 (by omega)) (fun c hc => ?_)
  obtain ⟨c1, c2, c3, c4, c5⟩ := hc
  refine Ok.callv (c_push1 c2 (by omega)) (fun d hd => ?_)
  obtain ⟨d1, d2, d3, d4, d5⟩ := hd
  rw [Ok_some]
  have na : (qI a 33 1).toNatClampNeg = (qI g 33 1).toNatClampNeg + 1 := by rw [t_nat, t_nat]; omega
  have nb : (qI b 33 1).toNatClampNeg = (qI g 33 1).toNatClampNeg + 2 := by rw [t_nat, t_nat]; omega
  have nc : (qI c 33 1).toNatClampNeg = (qI g 33 1).toNatClampNeg + 3 := by rw [t_nat, t_nat]; omega
  refine ⟨((a1.tr b1).tr c1).tr d1, d2, by omega, fun k hk => ?_, fun j hj => ?_⟩
  · rcases (show k = 0 ∨ k = 1 ∨ k = 2 ∨ k = 3 by omega) with rfl | rfl | rfl | rfl
    · rw [d5 _ (by omega), c5 _ (by omega), b5 _ (by omega), Nat.add_zero, a4]
      exact (Int32_shr24 w).symm
    · rw [d5 _ (by omega), c5 _ (by omega), ← na, b4]
      exact (Int32_shr16 w).symm
    · rw [d5 _ (by omega), ← nb, c4]
      exact (Int32_shr8 w).symm
    · rw [← nc, d4]
      rfl
  · rw [d5 j (by omega), c5 j (by omega), b5 j (by omega), a5 j hj]
/-- the k-th byte of five words -/
def fby (a b c d e : Int32) (k : Nat) : Int32 := wby (if k < 4 then a else if k < 8 then b else if k < 12 then c else if k < 16 then d else e) (k % 4)
/-- what feed does with the tape of the class -/
def FdC (g : CS) (a b c d e : Int32) (q : Int32 × CS) : Prop := ((qI g 33 1).toInt + 20 ≤ 400 → q.1.toInt = (qI g 33 1).toInt + 20 ∧ CI q.2 ∧ Cf [33, 34] g q.2 ∧ qI q.2 33 1 = q.1 ∧ (∀ k, k < 20 → qI q.2 34 ((qI g 33 1).toNatClampNeg + k) = fby a b c d e k) ∧ ∀ j, j < (qI g 33 1).toNatClampNeg → qI q.2 34 j = qI g 34 j) ∧ (¬ (qI g 33 1).toInt + 20 ≤ 400 → q = (-1, g))
theorem c_feed {a b c d e : Int32} {g : CS} (h : CI g) : Ok (fX8_feed 32 a b c d e g) (FdC g a b c d e) := by
  have h0 := h.tape
  have hn := h0.2.2.2.2
  have e0 : ∀ t : CS, Cf [33, 34] g t → qP t 32 0 = some 33 := fun t ht => by rw [ht.p]; exact h.1.2.1
  unfold fX8_feed
  rw [Ok_gd, h.1.2.1, Ok_ono]
  refine ⟨h.1.1, 33, rfl, ?_⟩
  rw [Ok_gd]
  refine ⟨h0.1, Ok.call (c_size h0) (fun q t ht => ?_)⟩
  have e1 : q = qI g 33 1 := congrArg Prod.fst ht
  have e2 : t = g := congrArg Prod.snd ht
  subst e2
  subst e1
  have e20 : (qI t 33 1 + 20).toInt = (qI t 33 1).toInt + 20 := by rw [t_add (by show -2147483648 ≤ (qI t 33 1).toInt + 20; omega) (by show (qI t 33 1).toInt + 20 < 2147483648; omega)]; rfl
  simp only [Ok_pif, Ok_some]
  rw [t_le, e20, show (400 : Int32).toInt = 400 from rfl]
  refine ⟨fun c20 => ?_, fun c20 => ⟨fun q => absurd q c20, fun _ => rfl⟩⟩
  rw [h.1.2.1, Ok_ono]
  refine ⟨33, rfl, ?_⟩
  rw [Ok_gd]
  refine ⟨h0.1, Ok.callv (c_pushWord h0 (by omega)) (fun t1 p1 => ?_)⟩
  obtain ⟨f1, r1, s1, v1, o1⟩ := p1
  rw [e0 t1 f1, Ok_ono]
  refine ⟨33, rfl, ?_⟩
  rw [Ok_gd]
  refine ⟨r1.1, Ok.callv (c_pushWord r1 (by omega)) (fun t2 p2 => ?_)⟩
  obtain ⟨f2, r2, s2, v2, o2⟩ := p2
  rw [e0 t2 (f1.tr f2), Ok_ono]
  refine ⟨33, rfl, ?_⟩
  rw [Ok_gd]
  refine ⟨r2.1, Ok.callv (c_pushWord r2 (by omega)) (fun t3 p3 => ?_)⟩
  obtain ⟨f3, r3, s3, v3, o3⟩ := p3
  rw [e0 t3 ((f1.tr f2).tr f3), Ok_ono]
  refine ⟨33, rfl, ?_⟩
  rw [Ok_gd]
  refine ⟨r3.1, Ok.callv (c_pushWord r3 (by omega)) (fun t4 p4 => ?_)⟩
  obtain ⟨f4, r4, s4, v4, o4⟩ := p4
  rw [e0 t4 (((f1.tr f2).tr f3).tr f4), Ok_ono]
  refine ⟨33, rfl, ?_⟩
  rw [Ok_gd]
  refine ⟨r4.1, Ok.callv (c_pushWord r4 (by omega)) (fun t5 p5 => ?_)⟩
  obtain ⟨f5, r5, s5, v5, o5⟩ := p5
  have fF := (((f1.tr f2).tr f3).tr f4).tr f5
  rw [e0 t5 fF, Ok_ono]
  refine ⟨33, rfl, ?_⟩
  rw [Ok_gd]
  refine ⟨r5.1, Ok.call (c_size r5) (fun q6 t6 p6 => ?_)⟩
  have e6 : q6 = qI t5 33 1 := congrArg Prod.fst p6
  have e7 : t6 = t5 := congrArg Prod.snd p6
  subst e7
  subst e6
  rw [Ok_some]
  have n1 : (qI t1 33 1).toNatClampNeg = (qI t 33 1).toNatClampNeg + 4 := by rw [t_nat, t_nat]; omega
  have n2 : (qI t2 33 1).toNatClampNeg = (qI t 33 1).toNatClampNeg + 8 := by rw [t_nat, t_nat]; omega
  have n3 : (qI t3 33 1).toNatClampNeg = (qI t 33 1).toNatClampNeg + 12 := by rw [t_nat, t_nat]; omega
  have n4 : (qI t4 33 1).toNatClampNeg = (qI t 33 1).toNatClampNeg + 16 := by rw [t_nat, t_nat]; omega
  refine ⟨fun _ => ⟨by show (qI t6 33 1).toInt = _; omega, h.tp fF r5, fF, rfl, fun k hk => ?_, fun j hj => ?_⟩, fun q => absurd c20 q⟩
  · show qI t6 34 _ = _
    unfold fby
    by_cases k4 : k < 4
    · rw [if_pos k4, o5 _ (by omega), o4 _ (by omega), o3 _ (by omega), o2 _ (by omega), v1 k k4, Nat.mod_eq_of_lt k4]
    · rw [if_neg k4]
      by_cases k8 : k < 8
      · rw [if_pos k8, o5 _ (by omega), o4 _ (by omega), o3 _ (by omega), show (qI t 33 1).toNatClampNeg + k = (qI t1 33 1).toNatClampNeg + (k - 4) by omega, v2 (k - 4) (by omega), show k % 4 = k - 4 by omega]
      · rw [if_neg k8]
        by_cases k12 : k < 12
        · rw [if_pos k12, o5 _ (by omega), o4 _ (by omega), show (qI t 33 1).toNatClampNeg + k = (qI t2 33 1).toNatClampNeg + (k - 8) by omega, v3 (k - 8) (by omega), show k % 4 = k - 8 by omega]
        · rw [if_neg k12]
          by_cases k16 : k < 16
          · rw [if_pos k16, o5 _ (by omega), show (qI t 33 1).toNatClampNeg + k = (qI t3 33 1).toNatClampNeg + (k - 12) by omega, v4 (k - 12) (by omega), show k % 4 = k - 12 by omega]
          · rw [if_neg k16, show (qI t 33 1).toNatClampNeg + k = (qI t4 33 1).toNatClampNeg + (k - 16) by omega, v5 (k - 16) (by omega), show k % 4 = k - 16 by omega]
  · show qI t6 34 j = _
    rw [o5 j (by omega), o4 j (by omega), o3 j (by omega), o2 j (by omega), o1 j hj]
