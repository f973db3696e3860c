/-- one more letter -/
def ApP (g : CS) (k : Nat) (x : Int32) (t : CS) : Prop := LwI t ∧ Tf 46 0 0 g t ∧ qI t 45 = qI g 45 ∧ (qI t 46 3).toInt = (k + 1 : Nat) ∧ (∀ j, j < k → qI t (lb t) j = qI g (lb g) j) ∧ qI t (lb t) k = x
theorem c_letter {g : CS} {k : Nat} {x : Int32} (h : LwI g) (hk : (qI g 46 3).toInt = k) (hk4 : k < 400) (h0 : 0 ≤ x.toInt) (h127 : x.toInt ≤ 127) : Ok (fJ4_append_cf468 46 ((x.toUInt32 % 65536).toInt32) g) (fun q => ApP g k x q.2) := by
  obtain ⟨m, hm⟩ : ∃ m : Nat, x.toInt = m := ⟨x.toInt.toNat, by omega⟩
  have ex := of_nat hm
  have b1 : vp_nar .byte (x.toUInt32 % 65536).toInt32.toInt8.toInt32 = x := by rw [ex]; exact byte_id m (by omega)
  have b2 : ¬ (255 : Int32) < (x.toUInt32 % 65536).toInt32 := by rw [ex]; exact byte_le m (by omega)
  unfold fJ4_append_cf468 fJ4_append_cf468_5 fJ5_append_3fe6f
  generalize (x.toUInt32 % 65536).toInt32 = y at *
  rw [Ok_gd]
  refine ⟨h.1, Ok.call (Q := fun q => ApP g k x q.2) ?_ (fun r t ht => by rw [Ok_some]; exact ht)⟩
  rw [Ok_gd]
  refine ⟨h.1, Ok.callv (c_ensure h hk hk4) (fun t ht => ?_)⟩
  obtain ⟨t1, t2, t3, t4, t5, t6⟩ := ht
  obtain ⟨h1, h2, h3, h4, h5, h6, h7, h8, h9, h10, h11, h12⟩ := id t1
  have tk : (qI t 46 3).toInt = k := by rw [t3]; exact hk
  have e1 := inc (x := qI t 46 3) (by omega) (by omega)
  have kn : (qI t 46 3).toNatClampNeg = k := by rw [t_nat]; omega
  unfold fJ5_append_3fe6f_10 fJ5_isLatin1_aae02 fJ5_append_3fe6f_14 fJ1_canEncode_fc78d fJ5_append_3fe6f_21
  rw [Ok_gd]
  refine ⟨h1, Ok.call (Q := fun q => q = ((1 : Int32), t)) ?_ (fun r u hu => ?_)⟩
  · simp only [Ok_pif, Ok_gd, Ok_some]
    exact ⟨fun q => absurd q (by decide), fun _ => ⟨h1, fun _ => trivial, fun q => absurd h2 q⟩⟩
  · cases hu
    rw [Ok_pif]
    refine ⟨fun q => absurd q (by decide), fun _ => Ok.call (Q := fun q => q = ((1 : Int32), t)) ?_ (fun r u hu => ?_)⟩
    · simp only [Ok_pif, Ok_some]
      exact ⟨fun q => absurd q b2, fun _ => trivial⟩
    · cases hu
      simp only [Ok_pif, Ok_gd, Ok_some, Ok_nam, Ok_ono, Ok_none, kn, b1]
      refine ⟨fun q => absurd q (by decide), fun _ => ⟨h1, lb t, h3, h4, ⟨by omega, by rw [t_in, tk, ql_wI]; omega⟩, ?_⟩⟩
      generalize qI t 46 3 + 1 = z at *
      have el : lb (wI (wI t 46 3 z) (lb t) k x) = lb t := rfl
      have eb : qI (wI (wI t 46 3 z) (lb t) k x) (lb t) = upd (qI t (lb t)) k x := by
        funext j
        rw [qI_wI, if_pos rfl]
        unfold upd
        by_cases c : j = k
        · rw [if_pos c, if_pos c]
        · rw [if_neg c, if_neg c, qI_wI, if_neg (by omega)]
      have e46 : ∀ j, qI (wI (wI t 46 3 z) (lb t) k x) 46 j = if j = 3 then z else qI t 46 j := fun j => by
        rw [qI_wo (by omega), qI_wI, if_pos rfl]
      have e45 : qI (wI (wI t 46 3 z) (lb t) k x) 45 = qI t 45 := by rw [qI_wo (by omega), qI_wo (by decide)]
      refine ⟨?_, ?_, e45.trans t4, ?_, fun j hj => ?_, ?_⟩
      · unfold LwI
        rw [el, eb, e46, e46, if_neg (by decide), if_pos rfl]
        refine ⟨h1, h2, h3, h4, h5, h6, by omega, by show z.toInt ≤ (ql t (lb t) : Nat); omega, h9, h10, fun j => ?_, h12⟩
        by_cases c : j = k
        · rw [c, upd_eq rfl]; exact ⟨by omega, by omega⟩
        · rw [upd_ne c]; exact h11 j
      · exact ((t2.tr Tf.w46).tr (Tf.wlb (g := wI t 46 3 z) (by show lb t ≠ 45; omega))).le (by omega) (by omega)
      · rw [e46, if_pos rfl]; omega
      · rw [el, eb, upd_ne (by omega)]; exact t6 j hj
      · rw [el, eb, upd_eq rfl]
/-- a String whose chars are bytes of f -/
def StC (f : Nat → Int32) (a l : Nat) (s : Nat) (g : CS) : Prop := StO g s ∧ ∃ b, qP g s 0 = some b ∧ ql g b = l ∧ (∀ j, j < l → qI g b j = f (a + j)) ∧ b ≠ lb g
theorem copy_ok {g : CS} {s : Nat} {x : Int32} {c : Nat} (hl : LwI g) (hx : x.toInt = c) (hc : c ≤ ql g (lb g)) : Ok (fJ7_copyOfRange_39247 (some (lb g)) 0 x g) (fun q => q.1 = some (qn g) ∧ ∃ fn : Nat → Int32, (∀ j, j < c → fn j = qI g (lb g) j) ∧ q.2 = wF (wN g 22 c c) (qn g) fn) := by
  obtain ⟨h1, h2, h3, h4, h5, h6, h7, h8, h9, h10, h11, h12⟩ := id hl
  have el := e_nI (n := ql g (lb g)) (by omega)
  unfold fJ7_copyOfRange_39247
  have r10 : Ok (fJ7_copyOfRange_39247_10 (some (lb g)) 0 x g) (fun q => q.1 = some (qn g) ∧ ∃ fn : Nat → Int32, (∀ j, j < c → fn j = qI g (lb g) j) ∧ q.2 = wF (wN g 22 c c) (qn g) fn) := by
    unfold fJ7_copyOfRange_39247_10 fJ7_copyOfRange_39247_16 fJ7_copyOfRangeByte_39247 fJ7_checkLength_df160
    refine Ok.call (Q := fun q => q.1 = some (qn g) ∧ ∃ fn : Nat → Int32, (∀ j, j < c → fn j = qI g (lb g) j) ∧ q.2 = wF (wN g 22 c c) (qn g) fn) ?_ (fun r t ht => by rw [Ok_some]; exact ht)
    refine Ok.callv (Q := fun t => t = g) ?_ (fun t ht => ?_)
    · simp only [Ok_pif, Ok_some, Ok_none]
      exact ⟨fun _ => trivial, fun q => q (by rw [t_le, hx]; show (0 : Int) ≤ c; omega)⟩
    · subst ht
      unfold fJ7_copyOfRangeByte_39247_5 fJ7_copyOfRangeByte_39247_12 fJ7_copyOfRangeByte_39247_27 fJ7_copyOfRangeByte_39247_30
      have e0 : (x - 0).toInt = c := by rw [t_sub (by rw [hx]; show -2147483648 ≤ (c : Int) - 0; omega) (by rw [hx]; show (c : Int) - 0 < 2147483648; omega), hx]; show (c : Int) - 0 = c; omega
      generalize x - 0 = y at *
      have ey : y.toNatClampNeg = c := by rw [t_nat]; omega
      simp only [Ok_nam, Ok_gd, Ok_ono, Ok_some, ey]
      have q1 : ql (wN t 22 c c) (lb t) = ql t (lb t) := by rw [ql_wN, if_neg (by omega)]
      have q2 : ql (wN t 22 c c) (qn t) = c := by rw [ql_wN, if_pos rfl]
      have e5 : (nI (ql t (lb t)) - 0).toInt = ql t (lb t) := by rw [t_sub (by rw [el]; show -2147483648 ≤ (_ : Int) - 0; omega) (by rw [el]; show (_ : Int) - 0 < 2147483648; omega), el]; show (_ : Int) - 0 = _; omega
      have e6 : (if y < nI (ql t (lb t)) - 0 then y else nI (ql t (lb t)) - 0) = y := by
        by_cases cc : y < nI (ql t (lb t)) - 0
        · rw [if_pos cc]
        · rw [if_neg cc, t_eq, e5, e0]
          rw [t_lt, e5, e0] at cc
          omega
      refine ⟨⟨by rw [t_lt, e0]; show ¬ (c : Int) < 0; omega, by omega⟩, lb t, rfl, by rw [qk_wN, if_neg (by omega)]; exact h4, qn t, rfl, by rw [qk_wN, if_pos rfl], lb t, rfl, by rw [qk_wN, if_neg (by omega)]; exact h4, ?_, trivial, _, ?_, rfl⟩
      · rw [q1, e6, q2, ey]
        refine ⟨by omega, by omega, by decide, by decide, by rw [t_lt, e0]; show ¬ ((c : Int) < 0); omega, by show 0 + c ≤ _; omega, by show 0 + c ≤ c; omega, fun j hj => ?_⟩
        rw [qI_wN, if_neg (by omega)]
        exact fits_b (h11 _)
      · intro j hj
        rw [q1, e6, ey, qI_wN, if_neg (by omega)]
        unfold va_cpy
        rw [if_pos ⟨by show 0 ≤ j; omega, by show j < 0 + c; omega⟩]
        congr 1
        show 0 + (j - 0) = j
        omega
  rw [Ok_pif]
  refine ⟨fun _ => ?_, fun q => absurd rfl q⟩
  rw [Ok_ono]
  refine ⟨lb g, rfl, ?_⟩
  rw [Ok_gd, Ok_pif]
  refine ⟨h4, fun ce => ?_, fun _ => r10⟩
  rw [t_eq, hx, el] at ce
  have ce : c = ql g (lb g) := by omega
  unfold fJ7_copyOfRange_39247_21
  simp only [Ok_gd, Ok_nam, Ok_ono, Ok_some]
  refine ⟨⟨by omega, fun j _ => fits_b (h11 j)⟩, qn g, rfl, ?_, by omega, rfl, qI g (lb g), fun _ _ => rfl, ?_⟩
  · show (if qn g = qn g then 22 else qk g (qn g)) = 22
    rw [if_pos rfl]
  · rw [ce]; rfl
/-- the letters' toString() -/
def TsP (g : CS) (k : Nat) (q : Option Nat × CS) : Prop := q.1 = some (qn g) ∧ LwI q.2 ∧ Tf 46 2 (4 + k) g q.2 ∧ qI q.2 45 = qI g 45 ∧ StC (qI g (lb g)) 0 k (qn g) q.2 ∧ qn g < qn q.2
theorem c_toString {g : CS} {k : Nat} (h : LwI g) (hk : (qI g 46 3).toInt = k) : Ok (fJ4_toString_0e30d 46 g) (TsP g k) := by
  obtain ⟨h1, h2, h3, h4, h5, h6, h7, h8, h9, h10, h11, h12⟩ := id h
  unfold fJ4_toString_0e30d fJ4_toString_0e30d_3 fJ4_toString_0e30d_8
  simp only [Ok_nam, Ok_ono, Ok_gd]
  have lN : LwI (wN g 1 0 4) := h.n
  have lI : LwI (wI (wN g 1 0 4) (qn g) 1 0) := lN.i (by omega) (by
    have : lb (wN g 1 0 4) = lb g := by unfold lb; rw [qP_wN, if_neg (by omega)]
    rw [this]; omega)
  have eI : lb (wI (wN g 1 0 4) (qn g) 1 0) = lb g := by show (qP (wN g 1 0 4) 46 0).getD 0 = _; rw [qP_wN, if_neg (by omega)]; rfl
  have kN : qk (wN g 1 0 4) (qn g) = 1 := by rw [qk_wN, if_pos rfl]
  have kN46 : qk (wN g 1 0 4) 46 = 2 := by rw [qk_wN, if_neg (by omega)]; exact h1
  have pN46 : qP (wN g 1 0 4) 46 0 = some (lb g) := by rw [qP_wN, if_neg (by omega)]; exact h3
  have iN46 : qI (wN g 1 0 4) 46 = qI g 46 := by rw [qI_wN, if_neg (by omega)]
  have nI2 : qn (wI (wN g 1 0 4) (qn g) 1 0) = qn g + 1 := rfl
  have sI2 : qs (wI (wN g 1 0 4) (qn g) 1 0) = qs g + 4 := rfl
  have kI2 : ∀ i, qk (wI (wN g 1 0 4) (qn g) 1 0) i = if i = qn g then 1 else qk g i := fun i => rfl
  have LI2 : ∀ i, ql (wI (wN g 1 0 4) (qn g) 1 0) i = if i = qn g then 0 else ql g i := fun i => rfl
  have iI2 : ∀ i, i ≠ qn g → qI (wI (wN g 1 0 4) (qn g) 1 0) i = qI g i := fun i hi => by rw [qI_wo hi, qI_wN, if_neg hi]
  have i1I2 : qI (wI (wN g 1 0 4) (qn g) 1 0) (qn g) 1 = 0 := by rw [qI_wI, if_pos rfl, if_pos rfl]
  have jI2 : ∀ i, i ≠ qn g → qJ (wI (wN g 1 0 4) (qn g) 1 0) i = qJ g i := fun i hi => by rw [qJ_wI, qJ_wN, if_neg hi]
  have pI2 : ∀ i, i ≠ qn g → qP (wI (wN g 1 0 4) (qn g) 1 0) i = qP g i := fun i hi => by rw [qP_wI, qP_wN, if_neg hi]
  have tI : Tf 46 1 4 g (wI (wN g 1 0 4) (qn g) 1 0) := Tf.ni (Tf.mk0 (sl := 4) h) (Nat.le_refl _) (by omega)
  refine ⟨qn g, rfl, kN, Ok.callv (Q := fun t => TsP g k (some (qn g), t)) ?_ (fun t ht => by rw [Ok_some]; exact ht)⟩
  unfold fJ0_init_81219 fJ0_init_81219_6 fJ0_init_db425 fJ0_init_db425_4 fJ5_getValue_6d5f1
  simp only [Ok_gd]
  refine ⟨kN, Ok.callv (Q := fun t => TsP g k (some (qn g), t)) ?_ (fun t ht => by rw [Ok_some]; exact ht)⟩
  simp only [Ok_ono, Ok_gd]
  refine ⟨46, rfl, kN46, Ok.call (Q := fun q => q = (some (lb g), wN g 1 0 4)) (by simp only [Ok_gd, Ok_some, pN46]; exact ⟨kN46, trivial⟩) (fun r t ht => ?_)⟩
  cases ht
  unfold fJ0_init_db425_8 fJ4_length_8abf5 fJ5_length_8abf5
  simp only [Ok_ono, Ok_gd]
  refine ⟨46, rfl, kN46, Ok.call (Q := fun q => q = (qI g 46 3, wN g 1 0 4)) ?_ (fun r t ht => ?_)⟩
  · rw [Ok_gd]
    refine ⟨kN46, Ok.call (Q := fun q => q = (qI g 46 3, wN g 1 0 4)) (by rw [Ok_gd, Ok_some, iN46]; exact ⟨kN46, rfl⟩) (fun r t ht => by rw [Ok_some]; exact ht)⟩
  cases ht
  unfold fJ0_init_db425_13 fJ5_isLatin1_aae02
  simp only [Ok_ono, Ok_gd]
  refine ⟨46, rfl, kN46, Ok.call (Q := fun q => q = ((1 : Int32), wN g 1 0 4)) ?_ (fun r t ht => ?_)⟩
  · simp only [Ok_pif, Ok_gd, Ok_some, iN46]
    exact ⟨fun q => absurd q (by decide), fun _ => ⟨kN46, fun _ => trivial, fun q => absurd h2 q⟩⟩
  cases ht
  unfold fJ0_init_db425_19
  rw [Ok_pif]
  refine ⟨fun q => absurd q (by decide), fun _ => ?_⟩
  simp only [Ok_gd, Ok_nam]
  refine ⟨kN, by omega, ?_⟩
  generalize wI (wN g 1 0 4) (qn g) 1 0 = u at *
  rw [← eI]
  refine Ok.call (copy_ok (s := 0) lI (c := k) hk (by rw [eI, LI2, if_neg (by omega)]; omega)) (fun r t ht => ?_)
  obtain ⟨e1, fn, hfn, e2⟩ := ht
  have e1 : r = some (qn u) := e1
  have e2 : t = wF (wN u 22 k k) (qn u) fn := e2
  rw [nI2] at e1
  unfold fJ0_init_db425_35
  simp only [Ok_gd, Ok_nam, Ok_some]
  have tk : ∀ i, qk t i = if i = qn g + 1 then 22 else qk u i := fun i => by rw [e2, ← nI2]; rfl
  have tl : ∀ i, ql t i = if i = qn g + 1 then k else ql u i := fun i => by rw [e2, ← nI2]; rfl
  have tn : qn t = qn g + 2 := by rw [e2, qn_wF, qn_wN, nI2]
  have ts : qs t = qs g + 4 + k := by rw [e2, qs_wF, qs_wN, sI2]
  have ti : ∀ i, i ≠ qn g + 1 → qI t i = qI u i := fun i hi => by rw [e2, qI_wF, nI2, if_neg hi, qI_wN, nI2, if_neg hi]
  have tb : qI t (qn g + 1) = fn := by rw [e2, qI_wF, nI2, if_pos rfl]
  have tj : ∀ i, i ≠ qn g + 1 → qJ t i = qJ u i := fun i hi => by rw [e2, qJ_wF, qJ_wN, nI2, if_neg hi]
  have tp : ∀ i, i ≠ qn g + 1 → qP t i = qP u i := fun i hi => by rw [e2, qP_wF, qP_wN, nI2, if_neg hi]
  clear e2
  rw [e1]
  have elt : lb (wP t (qn g) 0 (some (qn g + 1))) = lb g := by
    unfold lb
    rw [qP_wo (by omega), tp 46 (by omega), pI2 46 (by omega)]
  refine ⟨by rw [tk, if_neg (by omega), kI2, if_pos rfl], by omega, rfl, ?_, ⟨⟨by rw [qn_wP, tn]; omega, Or.inl elt⟩, fun i hi => ⟨by rw [qk_wP, tk, if_neg (by omega), kI2, if_neg (by omega)], by rw [ql_wP, tl, if_neg (by omega), LI2, if_neg (by omega)]⟩, fun i hi _ _ _ _ => ⟨by rw [qI_wP, ti i (by omega), iI2 i (by omega)], by rw [qJ_wP, tj i (by omega), jI2 i (by omega)]⟩, fun i hi _ _ => by rw [qP_wo (by omega), tp i (by omega), pI2 i (by omega)], ?_, ?_⟩, ?_, ⟨⟨?_, ⟨Or.inr (by omega), by rw [qn_wP, tn]; omega⟩, ?_, qn g + 1, ?_, ?_, ?_, Or.inr (by omega), by rw [qn_wP, tn]; omega⟩, qn g + 1, ?_, ?_, fun j hj => ?_, by rw [elt]; omega⟩, by rw [qn_wP, tn]; omega⟩
  · refine h.o ?_ ?_ ?_ ?_ ?_ ?_ ?_
    · rw [qk_wP, tk, if_neg (by omega), kI2, if_neg (by omega)]
    · rw [qI_wP, ti 46 (by omega), iI2 46 (by omega)]
    · rw [qP_wo (by omega), tp 46 (by omega), pI2 46 (by omega)]
    · rw [qk_wP, tk, if_neg (by omega), kI2, if_neg (by omega)]
    · rw [ql_wP, tl, if_neg (by omega), LI2, if_neg (by omega)]
    · rw [qI_wP, ti _ (by omega), iI2 _ (by omega)]
    · rw [qn_wP, tn]; omega
  · rw [elt, qn_wP, tn, ql_wP, tl, if_neg (by omega), LI2, if_neg (by omega)]; omega
  · rw [elt, ql_wP, tl, if_neg (by omega), LI2, if_neg (by omega), qI_wP, ti 45 (by omega), iI2 45 (by omega)]
    refine ⟨?_, Or.inr rfl⟩
    show (qs t : Int) + _ + _ ≤ _
    rw [ts]; omega
  · rw [qI_wP, ti 45 (by omega), iI2 45 (by omega)]
  · rw [qk_wP, tk, if_neg (by omega), kI2, if_pos rfl]
  · rw [qI_wP, ti _ (by omega)]; exact i1I2
  · rw [qP_wP, if_pos rfl, if_pos rfl]
  · rw [qk_wP, tk, if_pos rfl]
  · rw [ql_wP, tl, if_pos rfl]; omega
  · rw [qP_wP, if_pos rfl, if_pos rfl]
  · rw [ql_wP, tl, if_pos rfl]
  · rw [qI_wP, tb, hfn j hj, iI2 _ (by omega), eI, Nat.zero_add]
