theorem dX9_clear_0 : decode cX9_clear 0 = .ok (.iload_n 1, 1) := by decide +kernel
theorem dX9_clear_1 : decode cX9_clear 1 = .ok (.invokestatic 249, 3) := by decide +kernel
theorem dX9_clear_10 : decode cX9_clear 10 = .ok (.getfield 78, 3) := by decide +kernel
theorem dX9_clear_13 : decode cX9_clear 13 = .ok (.iload_n 1, 1) := by decide +kernel
theorem dX9_clear_14 : decode cX9_clear 14 = .ok (.iaload, 1) := by decide +kernel
theorem dX9_clear_15 : decode cX9_clear 15 = .ok (.istore_n 2, 1) := by decide +kernel
theorem dX9_clear_16 : decode cX9_clear 16 = .ok (.aload_n 0, 1) := by decide +kernel
theorem dX9_clear_17 : decode cX9_clear 17 = .ok (.getfield 78, 3) := by decide +kernel
theorem dX9_clear_20 : decode cX9_clear 20 = .ok (.iload_n 1, 1) := by decide +kernel
theorem dX9_clear_21 : decode cX9_clear 21 = .ok (.iconst 0, 1) := by decide +kernel
theorem dX9_clear_22 : decode cX9_clear 22 = .ok (.iastore, 1) := by decide +kernel
theorem dX9_clear_23 : decode cX9_clear 23 = .ok (.iload_n 2, 1) := by decide +kernel
theorem dX9_clear_24 : decode cX9_clear 24 = .ok (.ireturn, 1) := by decide +kernel
theorem dX9_clear_4 : decode cX9_clear 4 = .ok (.ifCond .ne 5, 3) := by decide +kernel
theorem dX9_clear_7 : decode cX9_clear 7 = .ok (.iconst (-1), 1) := by decide +kernel
theorem dX9_clear_8 : decode cX9_clear 8 = .ok (.ireturn, 1) := by decide +kernel
theorem dX9_clear_9 : decode cX9_clear 9 = .ok (.aload_n 0, 1) := by decide +kernel
theorem dX9_opens_0 : decode cX9_opens 0 = .ok (.aload_n 0, 1) := by decide +kernel
theorem dX9_opens_1 : decode cX9_opens 1 = .ok (.getfield 99, 3) := by decide +kernel
theorem dX9_opens_11 : decode cX9_opens 11 = .ok (.iload_n 1, 1) := by decide +kernel
theorem dX9_opens_12 : decode cX9_opens 12 = .ok (.iload_n 3, 1) := by decide +kernel
theorem dX9_opens_13 : decode cX9_opens 13 = .ok (.iastore, 1) := by decide +kernel
theorem dX9_opens_14 : decode cX9_opens 14 = .ok (.aload_n 0, 1) := by decide +kernel
theorem dX9_opens_15 : decode cX9_opens 15 = .ok (.getfield 105, 3) := by decide +kernel
theorem dX9_opens_18 : decode cX9_opens 18 = .ok (.iload_n 1, 1) := by decide +kernel
theorem dX9_opens_19 : decode cX9_opens 19 = .ok (.iload 4, 2) := by decide +kernel
theorem dX9_opens_21 : decode cX9_opens 21 = .ok (.iastore, 1) := by decide +kernel
theorem dX9_opens_22 : decode cX9_opens 22 = .ok (.aload_n 0, 1) := by decide +kernel
theorem dX9_opens_23 : decode cX9_opens 23 = .ok (.getfield 108, 3) := by decide +kernel
theorem dX9_opens_26 : decode cX9_opens 26 = .ok (.iload_n 1, 1) := by decide +kernel
theorem dX9_opens_27 : decode cX9_opens 27 = .ok (.iconst 0, 1) := by decide +kernel
theorem dX9_opens_28 : decode cX9_opens 28 = .ok (.iastore, 1) := by decide +kernel
theorem dX9_opens_29 : decode cX9_opens 29 = .ok (.aload_n 0, 1) := by decide +kernel
theorem dX9_opens_30 : decode cX9_opens 30 = .ok (.getfield 111, 3) := by decide +kernel
theorem dX9_opens_33 : decode cX9_opens 33 = .ok (.iload_n 1, 1) := by decide +kernel
theorem dX9_opens_34 : decode cX9_opens 34 = .ok (.iconst 0, 1) := by decide +kernel
theorem dX9_opens_35 : decode cX9_opens 35 = .ok (.iastore, 1) := by decide +kernel
theorem dX9_opens_36 : decode cX9_opens 36 = .ok (.return_, 1) := by decide +kernel
theorem dX9_opens_4 : decode cX9_opens 4 = .ok (.iload_n 1, 1) := by decide +kernel
theorem dX9_opens_5 : decode cX9_opens 5 = .ok (.iload_n 2, 1) := by decide +kernel
theorem dX9_opens_6 : decode cX9_opens 6 = .ok (.iastore, 1) := by decide +kernel
theorem dX9_opens_7 : decode cX9_opens 7 = .ok (.aload_n 0, 1) := by decide +kernel
theorem dX9_opens_8 : decode cX9_opens 8 = .ok (.getfield 102, 3) := by decide +kernel
def wp_X9_opens : List Cond := .code yX9_opens cX9_opens 5 none :: ([.fieldLink RX9 99 "RecordBenchModel" "pileMake" "[I", .fieldLink RX9 102 "RecordBenchModel" "pileAt" "[I", .fieldLink RX9 105 "RecordBenchModel" "pileEnd" "[I", .fieldLink RX9 108 "RecordBenchModel" "pileLast" "[I", .fieldLink RX9 111 "RecordBenchModel" "pileGroups" "[I"] ++ wsX90)
set_option maxHeartbeats 4000000 in
set_option maxRecDepth 100000 in
theorem c_X9_opens (l : Launch) (dC : Nat → ClassId) (dI : Nat → Nat → Nat) (h0 : Nat) (g : Nat → Value) (aa : Nat) (ca : ClassId) (fa : Nat → Int32) (ab : Nat) (cb : ClassId) (fb : Nat → Int32) (ac : Nat) (cc9 : ClassId) (fc : Nat → Int32) (ad : Nat) (cd : ClassId) (fd : Nat → Int32) (ae : Nat) (ce : ClassId) (fe : Nat → Int32) (d0 : Nat) (fh47 : g 47 = .ref aa) (fh48 : g 48 = .ref ab) (fh49 : g 49 = .ref ac) (fh50 : g 50 = .ref ad) (fh51 : g 51 = .ref ae) (hd0 : d0 < 9) (p1 : Int32) (p2 : Int32) (p3 : Int32) (sz : Nat) : Met l yX9_opens wp_X9_opens ({ frames := 0, cells := 0, slots := 0, locals := 0 }) (va_Pc [.ref h0, .int (nI d0), .int p1, .int p2, .int p3] (Pr (dC, dI) [(ca, .int), (cb, .int), (cc9, .int), (cd, .int), (ce, .int)] [] [(h0, .inr (11, mo g)), (aa, .inl (ca, 9, .inl fa)), (ab, .inl (cb, 9, .inl fb)), (ac, .inl (cc9, 9, .inl fc)), (ad, .inl (cd, 9, .inl fd)), (ae, .inl (ce, 9, .inl fe))] sz)) (va_Qv (fun (u : (Nat → Int32) × (Nat → Int32) × (Nat → Int32) × (Nat → Int32) × (Nat → Int32)) => match u with | (fa1, fb1, fc1, fd1, fe1) => (fa1 d0 = p1) ∧ (∀ x : Nat, x ≠ d0 → fa1 x = fa x) ∧ (fb1 d0 = p2) ∧ (∀ x : Nat, x ≠ d0 → fb1 x = fb x) ∧ (fc1 d0 = p3) ∧ (∀ x : Nat, x ≠ d0 → fc1 x = fc x) ∧ (fd1 d0 = 0) ∧ (∀ x : Nat, x ≠ d0 → fd1 x = fd x) ∧ (fe1 d0 = 0) ∧ (∀ x : Nat, x ≠ d0 → fe1 x = fe x)) (Bq (dC, dI) (fun (u : (Nat → Int32) × (Nat → Int32) × (Nat → Int32) × (Nat → Int32) × (Nat → Int32)) => match u with | (fa1, fb1, fc1, fd1, fe1) => [(h0, .inr (11, mo g)), (aa, .inl (ca, 9, .inl fa1)), (ab, .inl (cb, 9, .inl fb1)), (ac, .inl (cc9, 9, .inl fc1)), (ad, .inl (cd, 9, .inl fd1)), (ae, .inl (ce, 9, .inl fe1))]) (fun (u : (Nat → Int32) × (Nat → Int32) × (Nat → Int32) × (Nat → Int32) × (Nat → Int32)) => match u with | (fa1, fb1, fc1, fd1, fe1) => []) (va_A [(h0, .inr (11, mo g)), (aa, .inl (ca, 9, .inl fa)), (ab, .inl (cb, 9, .inl fb)), (ac, .inl (cc9, 9, .inl fc)), (ad, .inl (cd, 9, .inl fd)), (ae, .inl (ce, 9, .inl fe))] sz)) (va_A [(h0, .inr (11, mo g)), (aa, .inl (ca, 9, .inl fa)), (ab, .inl (cb, 9, .inl fb)), (ac, .inl (cc9, 9, .inl fc)), (ad, .inl (cd, 9, .inl fd)), (ae, .inl (ce, 9, .inl fe))] sz)) 0 0 (va_A [(h0, .inr (11, mo g)), (aa, .inl (ca, 9, .inl fa)), (ab, .inl (cb, 9, .inl fb)), (ac, .inl (cc9, 9, .inl fc)), (ad, .inl (cd, 9, .inl fd)), (ae, .inl (ce, 9, .inl fe))] sz) := by
  refine Met.ofW (cc := cX9_opens) (maxL := 5) (ret := none) (by decide) rfl ?_
  intro p e s m args below meth c s₁ B hml hv
  obtain ⟨rfl, hsz, hP, hK, hD0, hN, hZ, hR⟩ := hv
  have hx := B.exec
  have hb := B.bytes
  have hr := B.returns
  have hts := atoms_spec (ws := wp_X9_opens) B.pre
  have hown : s.vm.findClass RX9 = some m.cls := findClass_of_methodNamed B.named
  have hlocks := B.notSynchronized
  have iRX9 : ∀ w ∈ u_ws RX9 TX9 60, w ∈ wp_X9_opens := by decide +kernel
  subst hsz
  have hD := hD0.self (sz := s.heap.size)
  generalize hAe : va_A [(h0, .inr (11, mo g)), (aa, .inl (ca, 9, .inl fa)), (ab, .inl (cb, 9, .inl fb)), (ac, .inl (cc9, 9, .inl fc)), (ad, .inl (cd, 9, .inl fd)), (ae, .inl (ce, 9, .inl fe))] s.heap.size = A at hD hZ hR ⊢
  have hA : ∀ q : Nat, s.heap.size ≤ q → A q := fun q h => by rw [← hAe]; exact Or.inr h
  have hS : va_S A s.heap s.heap [] := va_S.rf
  have hP : va_P (dC, dI) vwCl [(h0, .inr (11, mo g)), (aa, .inl (ca, 9, .inl fa)), (ab, .inl (cb, 9, .inl fb)), (ac, .inl (cc9, 9, .inl fc)), (ad, .inl (cd, 9, .inl fd)), (ae, .inl (ce, 9, .inl fe))] s.heap := hP
  have hl := lv_entry ([.ref h0, .int (nI d0), .int p1, .int p2, .int p3]) (n := 5) (Nat.le_of_ble_eq_true rfl)
  rw [lg_entry_eq]
  generalize (lg_sl ([.ref h0, .int (nI d0), .int p1, .int p2, .int p3]) ++ List.replicate (5 - (lg_sl ([.ref h0, .int (nI d0), .int p1, .int p2, .int p3])).length) Slot.unset).toArray = ls at hl ⊢
  have hl : lv_has ls 5 [(0, .ref h0), (1, .int (nI d0)), (2, .int p1), (3, .int p2), (4, .int p3)] := hl
  have hcd : (nI d0).toNatClampNeg = d0 := nI_clamp (by omega)
  refine lv_aload_n hx hb dX9_opens_0 rfl (lv_at hl 0 rfl) ?_
  refine va_get (D := (dC, dI)) (ci := 11) (v := .ref aa) (C := RX9) (T := TX9) (N := 60) hx hb hts iRX9 hown hK hP 0 rfl rfl 47 (by decide) (hts (.fieldLink RX9 99 "RecordBenchModel" "pileMake" "[I") (by decide +kernel)) (fun _ h9 => h9) ((mo_get g (by decide)).trans (congrArg some fh47)) dX9_opens_1 ?_
  refine lv_iload_n hx hb dX9_opens_4 rfl (lv_at hl 1 rfl) ?_
  refine lv_iload_n hx hb dX9_opens_5 rfl (lv_at hl 2 rfl) ?_
  refine va_iast hx hb hK hP hD hS 1 0 rfl rfl (vp_in_nI hd0 (by decide)) dX9_opens_6 (fun H locs hP hD hS => ?_)
  rw [hcd] at hP hD
  obtain ⟨f_1, ef_1⟩ : ∃ y : Nat → Int32, y = upd fa d0 p1 := ⟨_, rfl⟩
  have hP : va_P (dC, dI) vwCl [(h0, .inr (11, mo g)), (aa, .inl (ca, 9, .inl f_1)), (ab, .inl (cb, 9, .inl fb)), (ac, .inl (cc9, 9, .inl fc)), (ad, .inl (cd, 9, .inl fd)), (ae, .inl (ce, 9, .inl fe))] H := by rw [ef_1]; exact hP
  have hD : va_D A [(h0, .inr (11, mo g)), (aa, .inl (ca, 9, .inl f_1)), (ab, .inl (cb, 9, .inl fb)), (ac, .inl (cc9, 9, .inl fc)), (ad, .inl (cd, 9, .inl fd)), (ae, .inl (ce, 9, .inl fe))] := by rw [ef_1]; exact hD
  have vf_1 : f_1 d0 = p1 := by rw [ef_1, pk_us]
  have frf_1 : ∀ x : Nat, x ≠ d0 → f_1 x = fa x := fun x hx => by rw [ef_1, pk_un hx]
  refine lv_aload_n hx hb dX9_opens_7 rfl (lv_at hl 0 rfl) ?_
  refine va_get (D := (dC, dI)) (ci := 11) (v := .ref ab) (C := RX9) (T := TX9) (N := 60) hx hb hts iRX9 hown hK hP 0 rfl rfl 48 (by decide) (hts (.fieldLink RX9 102 "RecordBenchModel" "pileAt" "[I") (by decide +kernel)) (fun _ h9 => h9) ((mo_get g (by decide)).trans (congrArg some fh48)) dX9_opens_8 ?_
  refine lv_iload_n hx hb dX9_opens_11 rfl (lv_at hl 1 rfl) ?_
  refine lv_iload_n hx hb dX9_opens_12 rfl (lv_at hl 3 rfl) ?_
  refine va_iast hx hb hK hP hD hS 2 1 rfl rfl (vp_in_nI hd0 (by decide)) dX9_opens_13 (fun H locs hP hD hS => ?_)
  rw [hcd] at hP hD
  obtain ⟨f_2, ef_2⟩ : ∃ y : Nat → Int32, y = upd fb d0 p2 := ⟨_, rfl⟩
  have hP : va_P (dC, dI) vwCl [(h0, .inr (11, mo g)), (aa, .inl (ca, 9, .inl f_1)), (ab, .inl (cb, 9, .inl f_2)), (ac, .inl (cc9, 9, .inl fc)), (ad, .inl (cd, 9, .inl fd)), (ae, .inl (ce, 9, .inl fe))] H := by rw [ef_2]; exact hP
  have hD : va_D A [(h0, .inr (11, mo g)), (aa, .inl (ca, 9, .inl f_1)), (ab, .inl (cb, 9, .inl f_2)), (ac, .inl (cc9, 9, .inl fc)), (ad, .inl (cd, 9, .inl fd)), (ae, .inl (ce, 9, .inl fe))] := by rw [ef_2]; exact hD
  have vf_2 : f_2 d0 = p2 := by rw [ef_2, pk_us]
  have frf_2 : ∀ x : Nat, x ≠ d0 → f_2 x = fb x := fun x hx => by rw [ef_2, pk_un hx]
  refine lv_aload_n hx hb dX9_opens_14 rfl (lv_at hl 0 rfl) ?_
  refine va_get (D := (dC, dI)) (ci := 11) (v := .ref ac) (C := RX9) (T := TX9) (N := 60) hx hb hts iRX9 hown hK hP 0 rfl rfl 49 (by decide) (hts (.fieldLink RX9 105 "RecordBenchModel" "pileEnd" "[I") (by decide +kernel)) (fun _ h9 => h9) ((mo_get g (by decide)).trans (congrArg some fh49)) dX9_opens_15 ?_
  refine lv_iload_n hx hb dX9_opens_18 rfl (lv_at hl 1 rfl) ?_
  refine lv_iload hx hb dX9_opens_19 (lv_at hl 4 rfl) ?_
  refine va_iast hx hb hK hP hD hS 3 2 rfl rfl (vp_in_nI hd0 (by decide)) dX9_opens_21 (fun H locs hP hD hS => ?_)
  rw [hcd] at hP hD
  obtain ⟨f_3, ef_3⟩ : ∃ y : Nat → Int32, y = upd fc d0 p3 := ⟨_, rfl⟩
  have hP : va_P (dC, dI) vwCl [(h0, .inr (11, mo g)), (aa, .inl (ca, 9, .inl f_1)), (ab, .inl (cb, 9, .inl f_2)), (ac, .inl (cc9, 9, .inl f_3)), (ad, .inl (cd, 9, .inl fd)), (ae, .inl (ce, 9, .inl fe))] H := by rw [ef_3]; exact hP
  have hD : va_D A [(h0, .inr (11, mo g)), (aa, .inl (ca, 9, .inl f_1)), (ab, .inl (cb, 9, .inl f_2)), (ac, .inl (cc9, 9, .inl f_3)), (ad, .inl (cd, 9, .inl fd)), (ae, .inl (ce, 9, .inl fe))] := by rw [ef_3]; exact hD
  have vf_3 : f_3 d0 = p3 := by rw [ef_3, pk_us]
  have frf_3 : ∀ x : Nat, x ≠ d0 → f_3 x = fc x := fun x hx => by rw [ef_3, pk_un hx]
  refine lv_aload_n hx hb dX9_opens_22 rfl (lv_at hl 0 rfl) ?_
  refine va_get (D := (dC, dI)) (ci := 11) (v := .ref ad) (C := RX9) (T := TX9) (N := 60) hx hb hts iRX9 hown hK hP 0 rfl rfl 50 (by decide) (hts (.fieldLink RX9 108 "RecordBenchModel" "pileLast" "[I") (by decide +kernel)) (fun _ h9 => h9) ((mo_get g (by decide)).trans (congrArg some fh50)) dX9_opens_23 ?_
  refine lv_iload_n hx hb dX9_opens_26 rfl (lv_at hl 1 rfl) ?_
  refine lv_iconst (v := 0) hx hb dX9_opens_27 (by decide) ?_
  refine va_iast hx hb hK hP hD hS 4 3 rfl rfl (vp_in_nI hd0 (by decide)) dX9_opens_28 (fun H locs hP hD hS => ?_)
  rw [hcd] at hP hD
  obtain ⟨f_4, ef_4⟩ : ∃ y : Nat → Int32, y = upd fd d0 0 := ⟨_, rfl⟩
  have hP : va_P (dC, dI) vwCl [(h0, .inr (11, mo g)), (aa, .inl (ca, 9, .inl f_1)), (ab, .inl (cb, 9, .inl f_2)), (ac, .inl (cc9, 9, .inl f_3)), (ad, .inl (cd, 9, .inl f_4)), (ae, .inl (ce, 9, .inl fe))] H := by rw [ef_4]; exact hP
  have hD : va_D A [(h0, .inr (11, mo g)), (aa, .inl (ca, 9, .inl f_1)), (ab, .inl (cb, 9, .inl f_2)), (ac, .inl (cc9, 9, .inl f_3)), (ad, .inl (cd, 9, .inl f_4)), (ae, .inl (ce, 9, .inl fe))] := by rw [ef_4]; exact hD
  have vf_4 : f_4 d0 = 0 := by rw [ef_4, pk_us]
  have frf_4 : ∀ x : Nat, x ≠ d0 → f_4 x = fd x := fun x hx => by rw [ef_4, pk_un hx]
  refine lv_aload_n hx hb dX9_opens_29 rfl (lv_at hl 0 rfl) ?_
  refine va_get (D := (dC, dI)) (ci := 11) (v := .ref ae) (C := RX9) (T := TX9) (N := 60) hx hb hts iRX9 hown hK hP 0 rfl rfl 51 (by decide) (hts (.fieldLink RX9 111 "RecordBenchModel" "pileGroups" "[I") (by decide +kernel)) (fun _ h9 => h9) ((mo_get g (by decide)).trans (congrArg some fh51)) dX9_opens_30 ?_
  refine lv_iload_n hx hb dX9_opens_33 rfl (lv_at hl 1 rfl) ?_
  refine lv_iconst (v := 0) hx hb dX9_opens_34 (by decide) ?_
  refine va_iast hx hb hK hP hD hS 5 4 rfl rfl (vp_in_nI hd0 (by decide)) dX9_opens_35 (fun H locs hP hD hS => ?_)
  rw [hcd] at hP hD
  obtain ⟨f_5, ef_5⟩ : ∃ y : Nat → Int32, y = upd fe d0 0 := ⟨_, rfl⟩
  have hP : va_P (dC, dI) vwCl [(h0, .inr (11, mo g)), (aa, .inl (ca, 9, .inl f_1)), (ab, .inl (cb, 9, .inl f_2)), (ac, .inl (cc9, 9, .inl f_3)), (ad, .inl (cd, 9, .inl f_4)), (ae, .inl (ce, 9, .inl f_5))] H := by rw [ef_5]; exact hP
  have hD : va_D A [(h0, .inr (11, mo g)), (aa, .inl (ca, 9, .inl f_1)), (ab, .inl (cb, 9, .inl f_2)), (ac, .inl (cc9, 9, .inl f_3)), (ad, .inl (cd, 9, .inl f_4)), (ae, .inl (ce, 9, .inl f_5))] := by rw [ef_5]; exact hD
  have vf_5 : f_5 d0 = 0 := by rw [ef_5, pk_us]
  have frf_5 : ∀ x : Nat, x ≠ d0 → f_5 x = fe x := fun x hx => by rw [ef_5, pk_un hx]
  have hP9 := hP.sub (ws' := [(h0, .inr (11, mo g)), (aa, .inl (ca, 9, .inl f_1)), (ab, .inl (cb, 9, .inl f_2)), (ac, .inl (cc9, 9, .inl f_3)), (ad, .inl (cd, 9, .inl f_4)), (ae, .inl (ce, 9, .inl f_5))]) [0, 1, 2, 3, 4, 5] rfl
  have hD9 := hD.sub (ws' := [(h0, .inr (11, mo g)), (aa, .inl (ca, 9, .inl f_1)), (ab, .inl (cb, 9, .inl f_2)), (ac, .inl (cc9, 9, .inl f_3)), (ad, .inl (cd, 9, .inl f_4)), (ae, .inl (ce, 9, .inl f_5))]) [0, 1, 2, 3, 4, 5] (by decide) rfl
  have hK9 := hK.sub (tys' := []) [] rfl
  exact W.vret hx hb hr (fun t ht hW => ⟨⟨(f_1, f_2, f_3, f_4, f_5), rfl, ⟨vf_1, frf_1, vf_2, frf_2, vf_3, frf_3, vf_4, frf_4, vf_5, frf_5⟩, by rw [ht]; exact hP9, va_K.moved hW.alike hK9, hD9⟩, hS.F ht⟩) hS.2.2 dX9_opens_36
def wp_X9_clear : List Cond := .code yX9_clear cX9_clear 3 (some .int) :: ([.methodLink RX9 249 yX9_isRecord, .static yX9_isRecord, .initialized RX9, .fieldLink RX9 78 "RecordBenchModel" "long0" "[I", .code yX9_isRecord cX9_isRecord 1 (some .boolean)] ++ wsX90)
set_option maxRecDepth 20000 in
theorem gp_X9_clear_X9_isRecord_249 : GoodIn wp_X9_clear (wsS RX9 249 yX9_isRecord wp_X9_isRecord) := goodIn_p _ [5] rfl (by decide +kernel)
set_option maxHeartbeats 4000000 in
set_option maxRecDepth 100000 in
theorem c_X9_clear (l : Launch) (dC : Nat → ClassId) (dI : Nat → Nat → Nat) (h0 : Nat) (g : Nat → Value) (a29 : Nat) (cL : ClassId) (fL : Nat → Int32) (fh29 : g 29 = .ref a29) (p0 : Int32) (sz : Nat) : Met l yX9_clear wp_X9_clear ({ frames := 1, cells := 0, slots := 0, locals := 24 }) (va_Pc [.ref h0, .int p0] (Pr (dC, dI) [(cL, .int)] [] [(h0, .inr (11, mo g)), (a29, .inl (cL, 4, .inl fL))] sz)) (va_Qi (fun r : Int32 => (fun (fL1 : Nat → Int32) => ((p0 < 0 ∨ 4 ≤ p0) ∧ fL = fL1 ∧ r = -1) ∨ (¬ (p0 < 0 ∨ 4 ≤ p0) ∧ upd fL p0.toNatClampNeg 0 = fL1 ∧ r = fL p0.toNatClampNeg))) (Bq (dC, dI) (fun (fL1 : Nat → Int32) => [(h0, .inr (11, mo g)), (a29, .inl (cL, 4, .inl fL1))]) (fun (fL1 : Nat → Int32) => []) (va_A [(h0, .inr (11, mo g)), (a29, .inl (cL, 4, .inl fL))] sz)) (va_A [(h0, .inr (11, mo g)), (a29, .inl (cL, 4, .inl fL))] sz)) 0 0 (va_A [(h0, .inr (11, mo g)), (a29, .inl (cL, 4, .inl fL))] sz) := by
  refine Met.ofW (cc := cX9_clear) (maxL := 3) (ret := (some .int)) (by decide) rfl ?_
  intro p e s m args below meth c s₁ B hml hv
  obtain ⟨rfl, hsz, hP, hK, hD0, hN, hZ, hR⟩ := hv
  have hx := B.exec
  have hb := B.bytes
  have hr := B.returns
  have hts := atoms_spec (ws := wp_X9_clear) B.pre
  have hown : s.vm.findClass RX9 = some m.cls := findClass_of_methodNamed B.named
  have hlocks := B.notSynchronized
  have iRX9 : ∀ w ∈ u_ws RX9 TX9 60, w ∈ wp_X9_clear := by decide +kernel
  subst hsz
  have hD := hD0.self (sz := s.heap.size)
  generalize hAe : va_A [(h0, .inr (11, mo g)), (a29, .inl (cL, 4, .inl fL))] s.heap.size = A at hD hZ hR ⊢
  have hA : ∀ q : Nat, s.heap.size ≤ q → A q := fun q h => by rw [← hAe]; exact Or.inr h
  have hS : va_S A s.heap s.heap [] := va_S.rf
  have hP : va_P (dC, dI) vwCl [(h0, .inr (11, mo g)), (a29, .inl (cL, 4, .inl fL))] s.heap := hP
  have hl := lv_entry ([.ref h0, .int p0]) (n := 3) (Nat.le_of_ble_eq_true rfl)
  rw [lg_entry_eq]
  generalize (lg_sl ([.ref h0, .int p0]) ++ List.replicate (3 - (lg_sl ([.ref h0, .int p0])).length) Slot.unset).toArray = ls at hl ⊢
  have hl : lv_has ls 3 [(0, .ref h0), (1, .int p0)] := hl
  refine lv_iload_n hx hb dX9_clear_0 rfl (lv_at hl 1 rfl) ?_
  have hFc := va_free (wc := []) hD hS hA [] rfl
  refine va_calli (va_runS (As := [.int p0]) (rest := []) ⟨hx, hb, hml, hown, hts⟩ (c_X9_isRecord l dC dI p0 s.heap.size) (cwS 1 hts gp_X9_clear_X9_isRecord_249 rfl rfl rfl (by decide +kernel) ⟨Nat.le_of_ble_eq_true rfl, Nat.le_of_ble_eq_true rfl⟩) ⟨Pr.blind _, fun U hU hW => ⟨rfl, Pr.at (hP.sub (ws' := []) [] rfl) (hK.sub (tys' := []) [] rfl) (hD.sub (ws' := []) [] (by decide) rfl) hN hZ RO.nil hS hFc hU hW⟩⟩ rfl rfl hl.1 rfl (lv_room (Nat.le_of_ble_eq_true rfl)) dX9_clear_1 ⟨Nat.le_of_ble_eq_true rfl, Nat.le_of_ble_eq_true rfl⟩) hS (fun q _ h => hFc q h) hFc (fun r_1 u t H1 locs ht hvm hw_2 hB hz1 hk1 hS => ?_)
  obtain ⟨hP, hD, hK⟩ := Bq.join (wr := [(h0, .inr (11, mo g)), (a29, .inl (cL, 4, .inl fL))]) hB ht hvm hP hD [] [0, 1] rfl rfl (by decide) (by decide) hk1 hFc hK
  generalize H1 = H at hP hS ⊢
  have hP : va_P (dC, dI) vwCl [(h0, .inr (11, mo g)), (a29, .inl (cL, 4, .inl fL))] H := hP
  have hD : va_D A [(h0, .inr (11, mo g)), (a29, .inl (cL, 4, .inl fL))] := hD
  have hK : va_K (dC, dI) vwCl [(cL, .int)] s := hK
  try dsimp only at hw_2
  have k_3 := hw_2
  rcases k_3 with ⟨ho, rfl⟩ | ⟨ho, rfl⟩
  · refine W.eq (g2 := F0 m 4 ls [.int 0]) rfl ?_
    refine lv_if_ne (tgt := 9) hx hb dX9_clear_4 (by decide) (fun c_4 => absurd (by decide) c_4) (fun c_4 => ?_)
    refine lv_iconst (v := (-1)) hx hb dX9_clear_7 (by decide) ?_
    have hP9 := hP.sub (ws' := [(h0, .inr (11, mo g)), (a29, .inl (cL, 4, .inl fL))]) [0, 1] rfl
    have hD9 := hD.sub (ws' := [(h0, .inr (11, mo g)), (a29, .inl (cL, 4, .inl fL))]) [0, 1] (by decide) rfl
    have hK9 := hK.sub (tys' := []) [] rfl
    exact W.iret (v := (-1)) hx hb hr (fun t ht hW => ⟨⟨(-1), fL, rfl, Or.inl ⟨ho, rfl, rfl⟩, by rw [ht]; exact hP9, va_K.moved hW.alike hK9, hD9⟩, hS.F ht⟩) hS.2.2 dX9_clear_8
  · refine W.eq (g2 := F0 m 4 ls [.int 1]) rfl ?_
    refine lv_if_ne (tgt := 9) hx hb dX9_clear_4 (by decide) (fun c_5 => ?_) (fun c_5 => absurd c_5 (by decide))
    refine lv_aload_n hx hb dX9_clear_9 rfl (lv_at hl 0 rfl) ?_
    refine va_get (D := (dC, dI)) (ci := 11) (v := .ref a29) (C := RX9) (T := TX9) (N := 60) hx hb hts iRX9 hown hK hP 0 rfl rfl 29 (by decide) (hts (.fieldLink RX9 78 "RecordBenchModel" "long0" "[I") (by decide +kernel)) (fun _ h9 => h9) ((mo_get g (by decide)).trans (congrArg some fh29)) dX9_clear_10 ?_
    refine lv_iload_n hx hb dX9_clear_13 rfl (lv_at hl 1 rfl) ?_
    refine va_iald hx hb hK hP 1 0 rfl rfl (in_of 4 rfl (by decide) (fun h => ho (Or.inl h)) (fun h => ho (Or.inr h))) dX9_clear_14 ?_
    refine W_toi (y := fL p0.toNatClampNeg) (rfl) ?_
    refine lv_istore_n (lv' := [(2, .int (fL p0.toNatClampNeg)), (0, .ref h0), (1, .int p0)]) hx hb dX9_clear_15 rfl hl (by decide) rfl (fun ls hl => ?_)
    refine lv_aload_n hx hb dX9_clear_16 rfl (lv_at hl 1 rfl) ?_
    refine va_get (D := (dC, dI)) (ci := 11) (v := .ref a29) (C := RX9) (T := TX9) (N := 60) hx hb hts iRX9 hown hK hP 0 rfl rfl 29 (by decide) (hts (.fieldLink RX9 78 "RecordBenchModel" "long0" "[I") (by decide +kernel)) (fun _ h9 => h9) ((mo_get g (by decide)).trans (congrArg some fh29)) dX9_clear_17 ?_
    refine lv_iload_n hx hb dX9_clear_20 rfl (lv_at hl 2 rfl) ?_
    refine lv_iconst (v := 0) hx hb dX9_clear_21 (by decide) ?_
    refine va_iast hx hb hK hP hD hS 1 0 rfl rfl (in_of 4 rfl (by decide) (fun h => ho (Or.inl h)) (fun h => ho (Or.inr h))) dX9_clear_22 (fun H locs hP hD hS => ?_)
    obtain ⟨f_6, ef_6⟩ : ∃ y : Nat → Int32, y = upd fL (p0 : Int32).toNatClampNeg 0 := ⟨_, rfl⟩
    have hP : va_P (dC, dI) vwCl [(h0, .inr (11, mo g)), (a29, .inl (cL, 4, .inl f_6))] H := by rw [ef_6]; exact hP
    have hD : va_D A [(h0, .inr (11, mo g)), (a29, .inl (cL, 4, .inl f_6))] := by rw [ef_6]; exact hD
    refine lv_iload_n hx hb dX9_clear_23 rfl (lv_at hl 0 rfl) ?_
    have hP9 := hP.sub (ws' := [(h0, .inr (11, mo g)), (a29, .inl (cL, 4, .inl f_6))]) [0, 1] rfl
    have hD9 := hD.sub (ws' := [(h0, .inr (11, mo g)), (a29, .inl (cL, 4, .inl f_6))]) [0, 1] (by decide) rfl
    have hK9 := hK.sub (tys' := []) [] rfl
    exact W.iret (v := fL p0.toNatClampNeg) hx hb hr (fun t ht hW => ⟨⟨fL p0.toNatClampNeg, f_6, rfl, Or.inr ⟨ho, ef_6.symm, rfl⟩, by rw [ht]; exact hP9, va_K.moved hW.alike hK9, hD9⟩, hS.F ht⟩) hS.2.2 dX9_clear_24
