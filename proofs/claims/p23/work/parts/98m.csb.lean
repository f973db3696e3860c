/-! class: the letters (a StringBuilder), words (Strings), what changes -/
theorem qI_wo {g : CS} {i k j : Nat} {v : Int32} (h : j ≠ i) : qI (wI g i k v) j = qI g j := va_up_ne _ _ h
theorem qJ_wo {g : CS} {i k j : Nat} {v : Int64} (h : j ≠ i) : qJ (wJ g i k v) j = qJ g j := va_up_ne _ _ h
theorem qP_wo {g : CS} {i k j : Nat} {v : Option Nat} (h : j ≠ i) : qP (wP g i k v) j = qP g j := va_up_ne _ _ h
def lb (g : CS) : Nat := (qP g 46 0).getD 0
def bt (x : Int32) : Prop := -128 ≤ x.toInt ∧ x.toInt ≤ 127
def LwI (g : CS) : Prop := qk g 46 = 2 ∧ qI g 46 1 = 0 ∧ qP g 46 0 = some (lb g) ∧ qk g (lb g) = 22 ∧ 16 ≤ ql g (lb g) ∧ ql g (lb g) ≤ 900 ∧ 0 ≤ (qI g 46 3).toInt ∧ (qI g 46 3).toInt ≤ ql g (lb g) ∧ (lb g = 47 ∨ 106 ≤ lb g) ∧ lb g < qn g ∧ (∀ j, bt (qI g (lb g) j)) ∧ 106 ≤ qn g
/-- what reading a text may change: the reader, the letters, a field F; its room -/
def Tf (F : Nat) (a b : Int) (g t : CS) : Prop := (qn g ≤ qn t ∧ (lb t = lb g ∨ qn g ≤ lb t)) ∧ (∀ i, i < qn g → qk t i = qk g i ∧ ql t i = ql g i) ∧ (∀ i, i < qn g → i ≠ 45 → i ≠ 46 → i ≠ F → i ≠ lb g → qI t i = qI g i ∧ qJ t i = qJ g i) ∧ (∀ i, i < qn g → i ≠ 46 → i ≠ F → qP t i = qP g i) ∧ ((qn t : Int) + ql g (lb g) ≤ qn g + ql t (lb t) + a) ∧ (qs t : Int) + 2 * ql g (lb g) + (qI g 45 3).toInt ≤ qs g + 2 * ql t (lb t) + (qI t 45 3).toInt + b ∧ ((qI t 45 3).toInt ≤ 400 ∨ (qI t 45 3).toInt = (qI g 45 3).toInt)
theorem Tf.rf {F : Nat} {g : CS} : Tf F 0 0 g g := ⟨⟨Nat.le_refl _, Or.inl rfl⟩, fun _ _ => ⟨rfl, rfl⟩, fun _ _ _ _ _ _ => ⟨rfl, rfl⟩, fun _ _ _ _ => rfl, by omega, by omega⟩
theorem Tf.tr {F : Nat} {a b a' b' : Int} {g t u : CS} (h : Tf F a b g t) (k : Tf F a' b' t u) : Tf F (a + a') (b + b') g u := by
  obtain ⟨⟨h1, h2⟩, h3, h4, h5, h6, h7⟩ := h
  obtain ⟨⟨k1, k2⟩, k3, k4, k5, k6, k7⟩ := k
  refine ⟨⟨by omega, ?_⟩, fun i hi => ?_, fun i hi i1 i2 i3 i4 => ?_, fun i hi i1 i2 => ?_, by omega, by omega⟩
  · rcases k2 with q | q
    · rw [q]; exact h2
    · exact Or.inr (by omega)
  · have e := k3 i (by omega)
    exact ⟨e.1.trans (h3 i hi).1, e.2.trans (h3 i hi).2⟩
  · have hl : i ≠ lb t := by
      rcases h2 with q | q
      · rw [q]; exact i4
      · omega
    have e := k4 i (by omega) i1 i2 i3 hl
    exact ⟨e.1.trans (h4 i hi i1 i2 i3 i4).1, e.2.trans (h4 i hi i1 i2 i3 i4).2⟩
  · exact (k5 i (by omega) i1 i2).trans (h5 i hi i1 i2)
/-- nothing of a field: 46 stands for no field -/
theorem Tf.up {F : Nat} {a b : Int} {g t : CS} (h : Tf 46 a b g t) : Tf F a b g t := by
  obtain ⟨h1, h2, h3, h4, h5, h6⟩ := h
  exact ⟨h1, h2, fun i hi i1 i2 _ i4 => h3 i hi i1 i2 i2 i4, fun i hi i1 _ => h4 i hi i1 i1, h5, h6⟩
theorem Tf.le {F : Nat} {a b a' b' : Int} {g t : CS} (h : Tf F a b g t) (ha : a ≤ a') (hb : b ≤ b') : Tf F a' b' g t := by
  obtain ⟨h1, h2, h3, h4, h5, h6⟩ := h
  exact ⟨h1, h2, h3, h4, by omega, by omega⟩
/-- an int of the reader, not its place -/
theorem Tf.w45 {F k : Nat} {v : Int32} {g : CS} (hk : k ≠ 3) : Tf F 0 0 g (wI g 45 k v) := by
  have e : qI (wI g 45 k v) 45 3 = qI g 45 3 := by rw [qI_wI, if_pos rfl, if_neg (fun q => hk q.symm)]
  refine ⟨⟨Nat.le_refl _, Or.inl rfl⟩, fun _ _ => ⟨rfl, rfl⟩, fun i _ i1 _ _ _ => ⟨va_up_ne _ _ i1, rfl⟩, fun _ _ _ _ => rfl, ?_, ?_⟩
  · show (qn g : Int) + ql g (lb g) ≤ qn g + ql g (lb g) + 0
    omega
  · rw [e]
    refine ⟨?_, Or.inr rfl⟩
    show (qs g : Int) + 2 * ql g (lb g) + _ ≤ qs g + 2 * ql g (lb g) + _ + 0
    omega
/-- the place -/
theorem Tf.pos {F : Nat} {v : Int32} {g : CS} {d : Int} (hd : v.toInt = (qI g 45 3).toInt + d) (h4 : v.toInt ≤ 400) : Tf F 0 (-d) g (wI g 45 3 v) := by
  have e : qI (wI g 45 3 v) 45 3 = v := by rw [qI_wI, if_pos rfl, if_pos rfl]
  refine ⟨⟨Nat.le_refl _, Or.inl rfl⟩, fun _ _ => ⟨rfl, rfl⟩, fun i _ i1 _ _ _ => ⟨va_up_ne _ _ i1, rfl⟩, fun _ _ _ _ => rfl, ?_, ?_⟩
  · show (qn g : Int) + ql g (lb g) ≤ qn g + ql g (lb g) + 0
    omega
  · rw [e]
    refine ⟨?_, Or.inl h4⟩
    rw [hd]
    show (qs g : Int) + 2 * ql g (lb g) + _ ≤ qs g + 2 * ql g (lb g) + _ + _
    omega
theorem Tf.w46 {F k : Nat} {v : Int32} {g : CS} : Tf F 0 0 g (wI g 46 k v) := by
  have e : qI (wI g 46 k v) 45 = qI g 45 := qI_wo (by decide)
  refine ⟨⟨Nat.le_refl _, Or.inl rfl⟩, fun _ _ => ⟨rfl, rfl⟩, fun i _ _ i2 _ _ => ⟨va_up_ne _ _ i2, rfl⟩, fun _ _ _ _ => rfl, ?_, ?_⟩
  · show (qn g : Int) + ql g (lb g) ≤ qn g + ql g (lb g) + 0
    omega
  · rw [e]
    refine ⟨?_, Or.inr rfl⟩
    show (qs g : Int) + 2 * ql g (lb g) + _ ≤ qs g + 2 * ql g (lb g) + _ + 0
    omega
/-- a byte of the letters -/
theorem Tf.wlb {F k : Nat} {v : Int32} {g : CS} (h : lb g ≠ 45) : Tf F 0 0 g (wI g (lb g) k v) := by
  have e : qI (wI g (lb g) k v) 45 = qI g 45 := va_up_ne _ _ (fun q => h q.symm)
  refine ⟨⟨Nat.le_refl _, Or.inl rfl⟩, fun _ _ => ⟨rfl, rfl⟩, fun i _ _ _ _ i4 => ⟨va_up_ne _ _ i4, rfl⟩, fun _ _ _ _ => rfl, ?_, ?_⟩
  · show (qn g : Int) + ql g (lb g) ≤ qn g + ql g (lb g) + 0
    omega
  · rw [e]
    refine ⟨?_, Or.inr rfl⟩
    show (qs g : Int) + 2 * ql g (lb g) + _ ≤ qs g + 2 * ql g (lb g) + _ + 0
    omega
/-- ints, longs, references of the field -/
theorem Tf.wFI {F k : Nat} {v : Int32} {g : CS} (h : F ≠ 45) : Tf F 0 0 g (wI g F k v) := by
  have e : qI (wI g F k v) 45 = qI g 45 := va_up_ne _ _ (fun q => h q.symm)
  refine ⟨⟨Nat.le_refl _, Or.inl rfl⟩, fun _ _ => ⟨rfl, rfl⟩, fun i _ _ _ i3 _ => ⟨va_up_ne _ _ i3, rfl⟩, fun _ _ _ _ => rfl, ?_, ?_⟩
  · show (qn g : Int) + ql g (lb g) ≤ qn g + ql g (lb g) + 0
    omega
  · rw [e]
    refine ⟨?_, Or.inr rfl⟩
    show (qs g : Int) + 2 * ql g (lb g) + _ ≤ qs g + 2 * ql g (lb g) + _ + 0
    omega
theorem Tf.wFJ {F k : Nat} {v : Int64} {g : CS} : Tf F 0 0 g (wJ g F k v) := by
  refine ⟨⟨Nat.le_refl _, Or.inl rfl⟩, fun _ _ => ⟨rfl, rfl⟩, fun i _ _ _ i3 _ => ⟨rfl, va_up_ne _ _ i3⟩, fun _ _ _ _ => rfl, ?_, ?_⟩
  · show (qn g : Int) + ql g (lb g) ≤ qn g + ql g (lb g) + 0
    omega
  · refine ⟨?_, Or.inr rfl⟩
    show (qs g : Int) + 2 * ql g (lb g) + (qI g 45 3).toInt ≤ qs g + 2 * ql g (lb g) + (qI g 45 3).toInt + 0
    omega
theorem Tf.wFP {F k : Nat} {v : Option Nat} {g : CS} (h : F ≠ 46) : Tf F 0 0 g (wP g F k v) := by
  have e : lb (wP g F k v) = lb g := by
    unfold lb
    rw [qP_wP, if_neg (fun q => h q.symm)]
  refine ⟨⟨Nat.le_refl _, Or.inl e⟩, fun _ _ => ⟨rfl, rfl⟩, fun i _ _ _ i3 _ => ⟨rfl, rfl⟩, fun i _ _ i2 => va_up_ne _ _ i2, ?_, ?_⟩
  · rw [e]
    show (qn g : Int) + ql g (lb g) ≤ qn g + ql g (lb g) + 0
    omega
  · rw [e]
    refine ⟨?_, Or.inr rfl⟩
    show (qs g : Int) + 2 * ql g (lb g) + (qI g 45 3).toInt ≤ qs g + 2 * ql g (lb g) + (qI g 45 3).toInt + 0
    omega
/-- a new object that isn't the letters -/
theorem Tf.mk0 {F kd n sl : Nat} {g : CS} (h : LwI g) : Tf F 1 sl g (wN g kd n sl) := by
  obtain ⟨h1, h2, h3, h4, h5, h6, h7, h8, h9, h10, h11, h12⟩ := h
  have e : lb (wN g kd n sl) = lb g := by
    unfold lb
    rw [qP_wN, if_neg (by omega)]
  refine ⟨⟨by rw [qn_wN]; omega, Or.inl e⟩, fun i hi => ⟨by rw [qk_wN, if_neg (by omega)], by rw [ql_wN, if_neg (by omega)]⟩, fun i hi _ _ _ _ => ⟨by rw [qI_wN, if_neg (by omega)], by rw [qJ_wN, if_neg (by omega)]⟩, fun i hi _ _ => by rw [qP_wN, if_neg (by omega)], ?_, ?_⟩
  · rw [e, qn_wN, ql_wN, if_neg (by omega)]
    omega
  · rw [e, qs_wN, ql_wN, if_neg (by omega), qI_wN, if_neg (by omega)]
    omega
/-- something that is new behind g0 -/
theorem Tf.ni {a b : Int} {i k : Nat} {v : Int32} {g0 g : CS} (h : Tf 46 a b g0 g) (hi : qn g0 ≤ i) (hl : i ≠ 45) : Tf 46 a b g0 (wI g i k v) := by
  obtain ⟨h1, h2, h3, h4, h5, h6⟩ := h
  refine ⟨h1, h2, fun j hj j1 j2 j3 j4 => ⟨(va_up_ne _ _ (by omega)).trans (h3 j hj j1 j2 j3 j4).1, (h3 j hj j1 j2 j3 j4).2⟩, h4, h5, ?_⟩
  have e : qI (wI g i k v) 45 = qI g 45 := va_up_ne _ _ (fun q => hl q.symm)
  rw [e]
  exact h6
theorem Tf.nj {a b : Int} {i k : Nat} {v : Int64} {g0 g : CS} (h : Tf 46 a b g0 g) (hi : qn g0 ≤ i) : Tf 46 a b g0 (wJ g i k v) := by
  obtain ⟨h1, h2, h3, h4, h5, h6⟩ := h
  exact ⟨h1, h2, fun j hj j1 j2 j3 j4 => ⟨(h3 j hj j1 j2 j3 j4).1, (va_up_ne _ _ (by omega)).trans (h3 j hj j1 j2 j3 j4).2⟩, h4, h5, h6⟩
theorem Tf.np {a b : Int} {i k : Nat} {v : Option Nat} {g0 g : CS} (h : Tf 46 a b g0 g) (hi : qn g0 ≤ i) (hl : i ≠ 46) : Tf 46 a b g0 (wP g i k v) := by
  obtain ⟨h1, h2, h3, h4, h5, h6⟩ := h
  have e : lb (wP g i k v) = lb g := by
    unfold lb
    rw [qP_wP, if_neg (fun q => hl q.symm)]
  refine ⟨⟨h1.1, by rw [e]; exact h1.2⟩, h2, h3, fun j hj j1 j2 => (va_up_ne _ _ (by omega)).trans (h4 j hj j1 j2), ?_, ?_⟩
  · rw [e]; exact h5
  · rw [e]; exact h6
/-- what is done to a field that is new behind g0 -/
theorem Tf.new {F : Nat} {a b : Int} {g0 g t : CS} {a' b' : Int} (h : Tf 46 a b g0 g) (k : Tf F a' b' g t) (hF : qn g0 ≤ F) : Tf 46 (a + a') (b + b') g0 t := by
  obtain ⟨⟨h1, h2⟩, h3, h4, h5, h6, h7⟩ := h
  obtain ⟨⟨k1, k2⟩, k3, k4, k5, k6, k7⟩ := k
  refine ⟨⟨by omega, ?_⟩, fun i hi => ?_, fun i hi i1 i2 i3 i4 => ?_, fun i hi i1 i2 => ?_, by omega, by omega⟩
  · rcases k2 with q | q
    · rw [q]; exact h2
    · exact Or.inr (by omega)
  · have e := k3 i (by omega)
    exact ⟨e.1.trans (h3 i hi).1, e.2.trans (h3 i hi).2⟩
  · have hl : i ≠ lb g := by
      rcases h2 with q | q
      · rw [q]; exact i4
      · omega
    have e := k4 i (by omega) i1 i2 (by omega) hl
    exact ⟨e.1.trans (h4 i hi i1 i2 i3 i4).1, e.2.trans (h4 i hi i1 i2 i3 i4).2⟩
  · exact (k5 i (by omega) i1 (by omega)).trans (h5 i hi i1 i2)
/-! the letters' invariant under writes -/
theorem LwI.n46 {g : CS} (h : LwI g) : lb g ≠ 45 ∧ lb g ≠ 46 ∧ 106 ≤ qn g ∧ 32 ≤ lb g := by
  obtain ⟨h1, h2, h3, h4, h5, h6, h7, h8, h9, h10, h11, h12⟩ := h
  omega
theorem LwI.o {g t : CS} (h : LwI g) (h1 : qk t 46 = qk g 46) (h2 : qI t 46 = qI g 46) (h3 : qP t 46 = qP g 46) (h4 : qk t (lb g) = qk g (lb g)) (h5 : ql t (lb g) = ql g (lb g)) (h6 : qI t (lb g) = qI g (lb g)) (hn : qn g ≤ qn t) : LwI t := by
  have e : lb t = lb g := by unfold lb; rw [h3]
  unfold LwI at *
  rw [e, h1, h2, h3, h4, h5, h6]
  obtain ⟨a1, a2, a3, a4, a5, a6, a7, a8, a9, a10, a11, a12⟩ := h
  exact ⟨a1, a2, a3, a4, a5, a6, a7, a8, a9, by omega, a11, by omega⟩
theorem LwI.i {g : CS} {i k : Nat} {v : Int32} (h : LwI g) (hi : i ≠ 46) (hl : i ≠ lb g) : LwI (wI g i k v) := h.o rfl (va_up_ne _ _ (fun q => hi q.symm)) rfl rfl rfl (va_up_ne _ _ (fun q => hl q.symm)) (Nat.le_refl _)
theorem LwI.j {g : CS} {i k : Nat} {v : Int64} (h : LwI g) : LwI (wJ g i k v) := h.o rfl rfl rfl rfl rfl rfl (Nat.le_refl _)
theorem LwI.p {g : CS} {i k : Nat} {v : Option Nat} (h : LwI g) (hi : i ≠ 46) : LwI (wP g i k v) := h.o rfl rfl (va_up_ne _ _ (fun q => hi q.symm)) rfl rfl rfl (Nat.le_refl _)
theorem LwI.n {g : CS} {kd n sl : Nat} (h : LwI g) : LwI (wN g kd n sl) := by
  have h10 := h.2.2.2.2.2.2.2.2.2.1
  have h12 := h.n46
  exact h.o (by rw [qk_wN, if_neg (by omega)]) (by rw [qI_wN, if_neg (by omega)]) (by rw [qP_wN, if_neg (by omega)]) (by rw [qk_wN, if_neg (by omega)]) (by rw [ql_wN, if_neg (by omega)]) (by rw [qI_wN, if_neg (by omega)]) (by rw [qn_wN]; omega)
theorem sh0 (x : Int32) : x >>> ((0 : Int32) &&& 31) = x := shr0 x
theorem sl0 (x : Int32) : x <<< ((0 : Int32) &&& 31) = x := by
  apply Int32.toBitVec_inj.mp
  show x.toBitVec <<< (0 : Nat) = x.toBitVec
  exact BitVec.shiftLeft_zero x.toBitVec
theorem c_setLength {g : CS} (h : LwI g) : Ok (fJ4_setLength_d00df 46 0 g) (fun t => LwI t ∧ Tf 46 0 0 g t ∧ qI t 46 3 = 0 ∧ qI t 45 = qI g 45) := by
  obtain ⟨h1, h2, h3, h4, h5, h6, h7, h8, h9, h10, h11, h12⟩ := id h
  have fin : ∀ u, u = g ∨ u = wI g 46 2 1 → LwI (wI u 46 3 0) ∧ Tf 46 0 0 g (wI u 46 3 0) ∧ qI (wI u 46 3 0) 46 3 = 0 ∧ qI (wI u 46 3 0) 45 = qI g 45 := by
    intro u hu
    have e3 : qI (wI u 46 3 0) 46 3 = 0 := by rw [qI_wI, if_pos rfl, if_pos rfl]
    have eu : qk u = qk g ∧ ql u = ql g ∧ qP u = qP g ∧ qn u = qn g ∧ qI u 45 = qI g 45 ∧ qI u 46 1 = 0 ∧ qI u (lb g) = qI g (lb g) ∧ Tf 46 0 0 g u := by
      rcases hu with rfl | rfl
      · exact ⟨rfl, rfl, rfl, rfl, rfl, h2, rfl, Tf.rf⟩
      · exact ⟨rfl, rfl, rfl, rfl, qI_wo (by decide), by rw [qI_wI, if_pos rfl, if_neg (by decide)]; exact h2, va_up_ne _ _ (by omega), Tf.w46⟩
    obtain ⟨u1, u2, u3, u4, u5, u6, u7, u8⟩ := eu
    have el : lb (wI u 46 3 0) = lb g := by
      show ((qP u 46 0).getD 0) = _
      rw [u3]; rfl
    refine ⟨?_, (u8.tr Tf.w46).le (by omega) (by omega), e3, (qI_wo (by decide)).trans u5⟩
    unfold LwI
    rw [el, e3, qk_wI, ql_wI, qP_wI, qn_wI, u1, u2, u3, u4]
    refine ⟨h1, ?_, h3, h4, h5, h6, by decide, ?_, h9, h10, ?_, h12⟩
    · rw [qI_wI, if_pos rfl, if_neg (by decide)]; exact u6
    · show (0 : Int) ≤ _
      omega
    · rw [show qI (wI u 46 3 0) (lb g) = qI g (lb g) from (va_up_ne _ _ (by omega)).trans u7]
      exact h11
  unfold fJ4_setLength_d00df fJ5_setLength_d00df
  simp only [Ok_gd, Ok_bnv]
  refine ⟨h1, ?_⟩
  rw [Ok_pif]
  refine ⟨fun _ => ?_, fun q => absurd (by decide) q⟩
  rw [Ok_gd]
  refine ⟨h1, Ok.callv (Q := fun t => t = g) ?_ (fun t ht => ?_)⟩
  · unfold fJ5_ensureCapacityInternal_d00df
    simp only [Ok_gd, Ok_ono, Ok_nam, Ok_pif, Ok_some]
    simp only [h2, sh0]
    refine ⟨h1, lb g, h3, h4, fun _ => trivial, fun q => absurd ?_ q⟩
    have e := e_nI (n := ql g (lb g)) (by omega)
    rw [t_le, t_sub (by rw [e]; show -2147483648 ≤ (0 : Int) - _; omega) (by rw [e]; show (0 : Int) - _ < 2147483648; omega), e]
    show (0 : Int) - _ ≤ 0
    omega
  · subst ht
    unfold fJ5_setLength_d00df_18 fJ5_setLength_d00df_76 fJ4_setLength_d00df_5
    simp only [Ok_gd, Ok_pif, Ok_nam, Ok_some]
    refine ⟨h1, fun _ => ⟨fun _ => ⟨h1, fin _ (Or.inl rfl)⟩, fun _ => ⟨h1, fin _ (Or.inr rfl)⟩⟩, fun q => absurd ?_ q⟩
    rw [t_le]
    exact h7
set_option maxRecDepth 20000 in
theorem byte_id : ∀ k : Nat, k < 128 → vp_nar .byte (((Int32.ofNat k).toUInt32 % 65536).toInt32.toInt8.toInt32) = Int32.ofNat k := by decide
set_option maxRecDepth 20000 in
theorem byte_le : ∀ k : Nat, k < 128 → ¬ (255 : Int32) < ((Int32.ofNat k).toUInt32 % 65536).toInt32 := by decide
theorem of_nat {x : Int32} {k : Nat} (h : x.toInt = k) : x = Int32.ofNat k := by
  have := t_rng x
  rw [t_eq, t_nI (by omega)]
  exact h
theorem fits_b {x : Int32} (h : bt x) : fits .byte (.int x) = true := by
  have h1 : (-128 : Int32) ≤ x := by rw [t_le]; exact h.1
  have h2 : x ≤ (127 : Int32) := by rw [t_le]; exact h.2
  show (decide ((-128 : Int32) ≤ x) && decide (x ≤ (127 : Int32))) = true
  rw [decide_eq_true h1, decide_eq_true h2]
  rfl
/-- room for one more letter -/
theorem c_ensure {g : CS} {k : Nat} (h : LwI g) (hk : (qI g 46 3).toInt = k) (hk4 : k < 400) : Ok (fJ5_ensureCapacityInternal_d00df 46 (qI g 46 3 + 1) g) (fun t => LwI t ∧ Tf 46 0 0 g t ∧ qI t 46 = qI g 46 ∧ qI t 45 = qI g 45 ∧ k < ql t (lb t) ∧ ∀ j, j < k → qI t (lb t) j = qI g (lb g) j) := by
  obtain ⟨h1, h2, h3, h4, h5, h6, h7, h8, h9, h10, h11, h12⟩ := id h
  have e1 := inc (x := qI g 46 3) (by omega) (by omega)
  have el := e_nI (n := ql g (lb g)) (by omega)
  generalize qI g 46 3 + 1 = x at e1 ⊢
  obtain ⟨C, eC⟩ : ∃ C, C = ql g (lb g) := ⟨_, rfl⟩
  rw [← eC] at el h5 h6 h8
  unfold fJ5_ensureCapacityInternal_d00df
  simp only [Ok_gd, Ok_ono, Ok_nam, h2, sh0]
  refine ⟨h1, lb g, h3, h4, ?_⟩
  rw [← eC, Ok_pif, t_le, t_sub (by omega) (by omega), el, e1, Ok_some, show (0 : Int32).toInt = 0 from rfl]
  refine ⟨fun c => ⟨h, Tf.rf, rfl, rfl, by omega, fun _ _ => rfl⟩, fun c => ?_⟩
  have hkC : k = C := by omega
  have e2 : (nI C + 2).toInt = C + 2 := by rw [t_add (by rw [el]; show -2147483648 ≤ (C : Int) + 2; omega) (by rw [el]; show (C : Int) + 2 < 2147483648; omega), el]; rfl
  refine Ok.call (Q := fun q => q.2 = g ∧ q.1.toInt = ((2 * C + 2 : Nat) : Int)) ?_ (fun r t ht => ?_)
  · unfold fJ5_newCapacity_0f7a4
    simp only [Ok_gd, Ok_ono, Ok_nam, h2, sl0, sh0]
    refine ⟨h1, lb g, h3, h4, ?_⟩
    rw [← eC]
    have e3 : (x - nI C).toInt = 1 := by rw [t_sub (by omega) (by omega), el, e1]; omega
    refine Ok.call (Q := fun q => q.2 = g ∧ q.1.toInt = ((2 * C + 2 : Nat) : Int)) ?_ (fun r t ht => ?_)
    · unfold fJ8_newLength_cabcc
      simp only [Ok_nam, Ok_pif, Ok_some, Ok_none]
      rw [if_pos (by rw [t_lt, e3, e2]; omega)]
      have e4 : (nI C + (nI C + 2)).toInt = ((2 * C + 2 : Nat) : Int) := by rw [t_add (by rw [el, e2]; omega) (by rw [el, e2]; omega), el, e2]; omega
      rw [t_le, t_lt, e4, show (0 : Int32).toInt = 0 from rfl, show (2147483639 : Int32).toInt = 2147483639 from rfl]
      exact ⟨fun q => by omega, fun _ => ⟨fun q => by omega, fun _ => ⟨trivial, rfl⟩⟩⟩
    · obtain ⟨t1, t2⟩ := ht
      have t1 : t = g := t1
      have t2 : r.toInt = ((2 * C + 2 : Nat) : Int) := t2
      subst t1
      simp only [Ok_pif, Ok_some, Ok_none, h2, sh0]
      refine ⟨fun q => ?_, fun _ => ⟨trivial, t2⟩⟩
      rw [t_eq, t2, show (2147483647 : Int32).toInt = 2147483647 from rfl] at q
      omega
  · obtain ⟨t1, t2⟩ := ht
    have t1 : t = g := t1
    have t2 : r.toInt = ((2 * C + 2 : Nat) : Int) := t2
    subst t1
    have rn : r.toNatClampNeg = 2 * C + 2 := by rw [t_nat]; omega
    unfold fJ5_ensureCapacityInternal_d00df_27
    rw [Ok_gd]
    refine ⟨h1, ?_⟩
    rw [h2, sl0]
    have elb : lb (wF (wN t 22 (2 * C + 2) (2 * C + 2)) (qn t) (va_cpy (qI t (lb t)) (fun _ => 0) 0 0 C)) = lb t := by
      show (qP (wN t 22 (2 * C + 2) (2 * C + 2)) 46 0).getD 0 = _
      rw [qP_wN, if_neg (by omega)]
      rfl
    refine Ok.call (Q := fun q => q = (some (qn t), wF (wN t 22 (2 * C + 2) (2 * C + 2)) (qn t) (va_cpy (qI t (lb t)) (fun _ => 0) 0 0 C))) ?_ (fun r' u hu => ?_)
    · have q1 : ql (wN t 22 (2 * C + 2) (2 * C + 2)) (lb t) = C := by rw [ql_wN, if_neg (by omega), ← eC]
      have q2 : ql (wN t 22 (2 * C + 2) (2 * C + 2)) (qn t) = 2 * C + 2 := by rw [ql_wN, if_pos rfl]
      have e5 : (if r < nI C then r else nI C) = nI C := if_neg (by rw [t_lt, t2, el]; omega)
      unfold fJ7_copyOf_9075b fJ7_copyOf_9075b_17 fJ7_copyOf_9075b_28 fJ7_copyOf_9075b_31
      simp only [Ok_gd, Ok_ono, Ok_nam, Ok_pif, Ok_none, Ok_some, rn]
      refine ⟨lb t, h3, h4, fun q => ?_, fun _ => ⟨⟨by rw [t_lt, t2]; show ¬ (((2 * C + 2 : Nat) : Int) < 0); omega, by omega⟩, lb t, h3, by rw [qk_wN, if_neg (by omega)]; exact h4, qn t, rfl, by rw [qk_wN, if_pos rfl], lb t, h3, by rw [qk_wN, if_neg (by omega)]; exact h4, ?_, ?_⟩⟩
      · rw [t_eq, t2, ← eC, el] at q
        omega
      · rw [q1, e5, q2]
        have eCn : (nI C).toNatClampNeg = C := by rw [t_nat]; omega
        rw [eCn]
        refine ⟨by omega, by omega, by decide, by decide, by rw [t_lt, el]; show ¬ ((C : Int) < 0); omega, by show 0 + C ≤ C; omega, by show 0 + C ≤ 2 * C + 2; omega, fun j hj => ?_⟩
        rw [qI_wN, if_neg (by omega)]
        exact fits_b (h11 _)
      · rw [q1, e5]
        have eCn : (nI C).toNatClampNeg = C := by rw [t_nat]; omega
        rw [eCn, qI_wN, if_neg (by omega), qI_wN, if_pos rfl]
        rfl
    · cases hu
      unfold fJ5_ensureCapacityInternal_d00df_35
      simp only [Ok_gd, Ok_nam, Ok_some]
      have ek46 : qk (wN t 22 (2 * C + 2) (2 * C + 2)) 46 = 2 := by rw [qk_wN, if_neg (by omega)]; exact h1
      generalize ew : wF (wN t 22 (2 * C + 2) (2 * C + 2)) (qn t) (va_cpy (qI t (lb t)) (fun _ => 0) 0 0 C) = w at *
      have wk : ∀ i, qk w i = if i = qn t then 22 else qk t i := fun i => by rw [← ew]; rfl
      have wl : ∀ i, ql w i = if i = qn t then 2 * C + 2 else ql t i := fun i => by rw [← ew]; rfl
      have wn : qn w = qn t + 1 := by rw [← ew]; rfl
      have ws : qs w = qs t + (2 * C + 2) := by rw [← ew]; rfl
      have wi : ∀ i, i ≠ qn t → qI w i = qI t i := fun i hi => by rw [← ew, qI_wF, if_neg hi, qI_wN, if_neg hi]
      have wj : ∀ i, i ≠ qn t → qJ w i = qJ t i := fun i hi => by rw [← ew, qJ_wF, qJ_wN, if_neg hi]
      have wp : ∀ i, i ≠ qn t → qP w i = qP t i := fun i hi => by rw [← ew, qP_wF, qP_wN, if_neg hi]
      have wb : qI w (qn t) = va_cpy (qI t (lb t)) (fun _ => 0) 0 0 C := by rw [← ew, qI_wF, if_pos rfl]
      clear ew
      have el2 : lb (wP w 46 0 (some (qn t))) = qn t := by
        unfold lb
        rw [qP_wP, if_pos rfl, if_pos rfl]
        rfl
      have i46 : qI (wP w 46 0 (some (qn t))) 46 = qI t 46 := wi 46 (by omega)
      refine ⟨by rw [wk, if_neg (by omega)]; exact h1, ?_, ⟨⟨by rw [qn_wP, wn]; omega, Or.inr (by rw [el2]; omega)⟩, fun i hi => ⟨by rw [qk_wP, wk, if_neg (by omega)], by rw [ql_wP, wl, if_neg (by omega)]⟩, fun i hi _ _ _ _ => ⟨by rw [qI_wP, wi i (by omega)], by rw [qJ_wP, wj i (by omega)]⟩, fun i hi i2 _ => by rw [qP_wo i2, wp i (by omega)], ?_, ?_⟩, i46, wi 45 (by omega), ?_, fun j hj => ?_⟩
      · unfold LwI
        rw [el2, i46, qk_wP, ql_wP, qn_wP, wn, wk, if_neg (by omega), wk, if_pos rfl, wl, if_pos rfl, qP_wP, if_pos rfl, if_pos rfl, qI_wP, wb]
        refine ⟨h1, h2, rfl, rfl, by omega, by omega, h7, by omega, Or.inr (by omega), by omega, fun j => ?_, by omega⟩
        unfold va_cpy
        by_cases c2 : 0 ≤ j ∧ j < 0 + C
        · rw [if_pos c2]; exact h11 _
        · rw [if_neg c2]; exact ⟨show (-128 : Int) ≤ (0 : Int32).toInt by decide, show (0 : Int32).toInt ≤ 127 by decide⟩
      · rw [el2, qn_wP, ql_wP, wn, wl, if_pos rfl, ← eC]; omega
      · rw [el2, ql_wP, wl, if_pos rfl, qI_wP, wi 45 (by omega), ← eC]
        refine ⟨?_, Or.inr rfl⟩
        show (qs w : Int) + _ + _ ≤ _
        rw [ws]; omega
      · rw [el2, ql_wP, wl, if_pos rfl]; omega
      · rw [el2, qI_wP, wb]
        unfold va_cpy
        rw [if_pos ⟨by omega, by omega⟩]
        congr 1
        omega
