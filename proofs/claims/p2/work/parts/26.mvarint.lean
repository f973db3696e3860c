theorem dX9_varint_0 : decode cX9_varint 0 = .ok (.aload_n 0, 1) := by decide +kernel
theorem dX9_varint_1 : decode cX9_varint 1 = .ok (.lconst 0, 1) := by decide +kernel
theorem dX9_varint_10 : decode cX9_varint 10 = .ok (.if_icmp .ge 84, 3) := by decide +kernel
theorem dX9_varint_13 : decode cX9_varint 13 = .ok (.iload_n 1, 1) := by decide +kernel
theorem dX9_varint_14 : decode cX9_varint 14 = .ok (.iload_n 3, 1) := by decide +kernel
theorem dX9_varint_15 : decode cX9_varint 15 = .ok (.iadd, 1) := by decide +kernel
theorem dX9_varint_16 : decode cX9_varint 16 = .ok (.iload_n 2, 1) := by decide +kernel
theorem dX9_varint_17 : decode cX9_varint 17 = .ok (.if_icmp .lt 5, 3) := by decide +kernel
theorem dX9_varint_2 : decode cX9_varint 2 = .ok (.putfield 252, 3) := by decide +kernel
theorem dX9_varint_20 : decode cX9_varint 20 = .ok (.iconst 0, 1) := by decide +kernel
theorem dX9_varint_21 : decode cX9_varint 21 = .ok (.ireturn, 1) := by decide +kernel
theorem dX9_varint_22 : decode cX9_varint 22 = .ok (.aload_n 0, 1) := by decide +kernel
theorem dX9_varint_23 : decode cX9_varint 23 = .ok (.getfield 81, 3) := by decide +kernel
theorem dX9_varint_26 : decode cX9_varint 26 = .ok (.iload_n 1, 1) := by decide +kernel
theorem dX9_varint_27 : decode cX9_varint 27 = .ok (.iload_n 3, 1) := by decide +kernel
theorem dX9_varint_28 : decode cX9_varint 28 = .ok (.iadd, 1) := by decide +kernel
theorem dX9_varint_29 : decode cX9_varint 29 = .ok (.iaload, 1) := by decide +kernel
theorem dX9_varint_30 : decode cX9_varint 30 = .ok (.i2l, 1) := by decide +kernel
theorem dX9_varint_31 : decode cX9_varint 31 = .ok (.lstore 4, 2) := by decide +kernel
theorem dX9_varint_33 : decode cX9_varint 33 = .ok (.iload_n 3, 1) := by decide +kernel
theorem dX9_varint_34 : decode cX9_varint 34 = .ok (.bipush 9, 2) := by decide +kernel
theorem dX9_varint_36 : decode cX9_varint 36 = .ok (.if_icmp .ne 12, 3) := by decide +kernel
theorem dX9_varint_39 : decode cX9_varint 39 = .ok (.lload 4, 2) := by decide +kernel
theorem dX9_varint_41 : decode cX9_varint 41 = .ok (.lconst 1, 1) := by decide +kernel
theorem dX9_varint_42 : decode cX9_varint 42 = .ok (.lcmp, 1) := by decide +kernel
theorem dX9_varint_43 : decode cX9_varint 43 = .ok (.ifCond .le 5, 3) := by decide +kernel
theorem dX9_varint_46 : decode cX9_varint 46 = .ok (.iconst 0, 1) := by decide +kernel
theorem dX9_varint_47 : decode cX9_varint 47 = .ok (.ireturn, 1) := by decide +kernel
theorem dX9_varint_48 : decode cX9_varint 48 = .ok (.aload_n 0, 1) := by decide +kernel
theorem dX9_varint_49 : decode cX9_varint 49 = .ok (.dup, 1) := by decide +kernel
theorem dX9_varint_5 : decode cX9_varint 5 = .ok (.iconst 0, 1) := by decide +kernel
theorem dX9_varint_50 : decode cX9_varint 50 = .ok (.getfield 252, 3) := by decide +kernel
theorem dX9_varint_53 : decode cX9_varint 53 = .ok (.lload 4, 2) := by decide +kernel
theorem dX9_varint_55 : decode cX9_varint 55 = .ok (.ldc2_w 217, 3) := by decide +kernel
theorem dX9_varint_58 : decode cX9_varint 58 = .ok (.land, 1) := by decide +kernel
theorem dX9_varint_59 : decode cX9_varint 59 = .ok (.bipush 7, 2) := by decide +kernel
theorem dX9_varint_6 : decode cX9_varint 6 = .ok (.istore_n 3, 1) := by decide +kernel
theorem dX9_varint_61 : decode cX9_varint 61 = .ok (.iload_n 3, 1) := by decide +kernel
theorem dX9_varint_62 : decode cX9_varint 62 = .ok (.imul, 1) := by decide +kernel
theorem dX9_varint_63 : decode cX9_varint 63 = .ok (.lshl, 1) := by decide +kernel
theorem dX9_varint_64 : decode cX9_varint 64 = .ok (.lor, 1) := by decide +kernel
theorem dX9_varint_65 : decode cX9_varint 65 = .ok (.putfield 252, 3) := by decide +kernel
theorem dX9_varint_68 : decode cX9_varint 68 = .ok (.lload 4, 2) := by decide +kernel
theorem dX9_varint_7 : decode cX9_varint 7 = .ok (.iload_n 3, 1) := by decide +kernel
theorem dX9_varint_70 : decode cX9_varint 70 = .ok (.ldc2_w 255, 3) := by decide +kernel
theorem dX9_varint_73 : decode cX9_varint 73 = .ok (.lcmp, 1) := by decide +kernel
theorem dX9_varint_74 : decode cX9_varint 74 = .ok (.ifCond .ge 14, 3) := by decide +kernel
theorem dX9_varint_77 : decode cX9_varint 77 = .ok (.aload_n 0, 1) := by decide +kernel
theorem dX9_varint_78 : decode cX9_varint 78 = .ok (.iload_n 1, 1) := by decide +kernel
theorem dX9_varint_79 : decode cX9_varint 79 = .ok (.iload_n 3, 1) := by decide +kernel
theorem dX9_varint_8 : decode cX9_varint 8 = .ok (.bipush 10, 2) := by decide +kernel
theorem dX9_varint_80 : decode cX9_varint 80 = .ok (.iadd, 1) := by decide +kernel
theorem dX9_varint_81 : decode cX9_varint 81 = .ok (.iconst 1, 1) := by decide +kernel
theorem dX9_varint_82 : decode cX9_varint 82 = .ok (.iadd, 1) := by decide +kernel
theorem dX9_varint_83 : decode cX9_varint 83 = .ok (.putfield 257, 3) := by decide +kernel
theorem dX9_varint_86 : decode cX9_varint 86 = .ok (.iconst 1, 1) := by decide +kernel
theorem dX9_varint_87 : decode cX9_varint 87 = .ok (.ireturn, 1) := by decide +kernel
theorem dX9_varint_88 : decode cX9_varint 88 = .ok (.iinc 3 1, 3) := by decide +kernel
theorem dX9_varint_91 : decode cX9_varint 91 = .ok (.goto (-84), 3) := by decide +kernel
theorem dX9_varint_94 : decode cX9_varint 94 = .ok (.iconst 0, 1) := by decide +kernel
theorem dX9_varint_95 : decode cX9_varint 95 = .ok (.ireturn, 1) := by decide +kernel
def wp_X9_varint : List Cond := .code yX9_varint cX9_varint 6 (some .boolean) :: ([.fieldLink RX9 252 "RecordBenchModel" "varint" "J", .fieldLink RX9 81 "RecordBenchModel" "row" "[I", .constantLong RX9 217 (127), .constantLong RX9 255 (128), .fieldLink RX9 257 "RecordBenchModel" "varintEnd" "I"] ++ wsX90)
set_option maxHeartbeats 4000000 in
set_option maxRecDepth 100000 in
theorem c_X9_varint (l : Launch) (dC : Nat → ClassId) (dI : Nat → Nat → Nat) (h0 : Nat) (g : Nat → Value) (a30 : Nat) (cR : ClassId) (fW : Nat → Int32) (pv : Nat) (ev : Nat) (x32 : Int32) (fh30 : g 30 = .ref a30) (fh32 : g 32 = .int x32) (hp1 : pv ≤ ev) (hp2 : ev ≤ 160) (sz : Nat) : Met l yX9_varint wp_X9_varint ({ frames := 0, cells := 0, slots := 0, locals := 0 }) (va_Pc [.ref h0, .int (nI pv), .int (nI ev)] (Pr (dC, dI) [(cR, .int)] [] [(h0, .inr (11, mo g)), (a30, .inl (cR, 160, .inl fW))] sz)) (va_Qi (fun r : Int32 => (fun (u : (Nat → Value) × Nat × Int64 × Int32) => match u with | (g1, k1, v1, y1) => ((vOK fW pv ev k1 ∧ vacc fW pv (k1 + 1) = v1 ∧ nI (pv + k1 + 1) = y1 ∧ r = 1) ∨ ((∀ k : Nat, ¬ vOK fW pv ev k) ∧ r = 0)) ∧ (g1 31 = .long v1) ∧ (g1 32 = .int y1) ∧ (∀ j : Nat, j ≠ 31 → j ≠ 32 → g1 j = g j))) (Bq (dC, dI) (fun (u : (Nat → Value) × Nat × Int64 × Int32) => match u with | (g1, k1, v1, y1) => [(h0, .inr (11, mo g1)), (a30, .inl (cR, 160, .inl fW))]) (fun (u : (Nat → Value) × Nat × Int64 × Int32) => match u with | (g1, k1, v1, y1) => []) (va_A [(h0, .inr (11, mo g)), (a30, .inl (cR, 160, .inl fW))] sz)) (va_A [(h0, .inr (11, mo g)), (a30, .inl (cR, 160, .inl fW))] sz)) 0 0 (va_A [(h0, .inr (11, mo g)), (a30, .inl (cR, 160, .inl fW))] sz) := by
  refine Met.ofW (cc := cX9_varint) (maxL := 6) (ret := (some .boolean)) (by decide) rfl ?_
  intro p e s m args below meth c s₁ B hml hv
  obtain ⟨rfl, hsz, hP, hK, hD0, hN, hZ, hR⟩ := hv
  have hx := B.exec
  have hb := B.bytes
  have hr := B.returns
  have hts := atoms_spec (ws := wp_X9_varint) B.pre
  have hown : s.vm.findClass RX9 = some m.cls := findClass_of_methodNamed B.named
  have hlocks := B.notSynchronized
  have iRX9 : ∀ w ∈ u_ws RX9 TX9 60, w ∈ wp_X9_varint := by decide +kernel
  subst hsz
  have hD := hD0.self (sz := s.heap.size)
  generalize hAe : va_A [(h0, .inr (11, mo g)), (a30, .inl (cR, 160, .inl fW))] s.heap.size = A at hD hZ hR ⊢
  have hA : ∀ q : Nat, s.heap.size ≤ q → A q := fun q h => by rw [← hAe]; exact Or.inr h
  have hS : va_S A s.heap s.heap [] := va_S.rf
  have hP : va_P (dC, dI) vwCl [(h0, .inr (11, mo g)), (a30, .inl (cR, 160, .inl fW))] s.heap := hP
  have hl := lv_entry ([.ref h0, .int (nI pv), .int (nI ev)]) (n := 6) (Nat.le_of_ble_eq_true rfl)
  rw [lg_entry_eq]
  generalize (lg_sl ([.ref h0, .int (nI pv), .int (nI ev)]) ++ List.replicate (6 - (lg_sl ([.ref h0, .int (nI pv), .int (nI ev)])).length) Slot.unset).toArray = ls at hl ⊢
  have hl : lv_has ls 6 [(0, .ref h0), (1, .int (nI pv)), (2, .int (nI ev))] := hl
  refine lv_aload_n hx hb dX9_varint_0 rfl (lv_at hl 0 rfl) ?_
  refine lv_lconst (v := 0) hx hb dX9_varint_1 (by decide) ?_
  refine va_put (D := (dC, dI)) (ci := 11) (v := .long 0) (ty := .long) (C := RX9) (T := TX9) (N := 60) hx hb hts iRX9 tyX9 tyX9_ok nmX9 hown hK hP hD hS 0 rfl rfl 31 (by decide) (hts (.fieldLink RX9 252 "RecordBenchModel" "varint" "J") (by decide +kernel)) (fun _ h9 => h9) rfl (by decide +kernel) rfl rfl (by rw [mo_len]; decide) dX9_varint_2 (fun H locs hP hD hS => ?_)
  obtain ⟨g_1, eg_1⟩ : ∃ y, y = va_up g 31 (.long 0) := ⟨_, rfl⟩
  have hP : va_P (dC, dI) vwCl [(h0, .inr (11, mo g_1)), (a30, .inl (cR, 160, .inl fW))] H := by rw [eg_1, ← mo_set g (by decide)]; exact hP
  have hD : va_D A [(h0, .inr (11, mo g_1)), (a30, .inl (cR, 160, .inl fW))] := by rw [eg_1, ← mo_set g (by decide)]; exact hD
  have g_1h30 : g_1 30 = .ref a30 := by rw [eg_1, va_up_ne _ _ (by decide)]; exact fh30
  have g_1h32 : g_1 32 = .int x32 := by rw [eg_1, va_up_ne _ _ (by decide)]; exact fh32
  have g_1h31 : g_1 31 = .long 0 := by rw [eg_1, va_up_self]
  have ung_1 : ∀ j : Nat, j ≠ 31 → g_1 j = g j := fun j h31 => by rw [eg_1, va_up_ne _ _ h31]
  refine lv_iconst (v := 0) hx hb dX9_varint_5 (by decide) ?_
  refine lv_istore_n (lv' := [(3, .int 0), (0, .ref h0), (1, .int (nI pv)), (2, .int (nI ev))]) hx hb dX9_varint_6 rfl hl (by decide) rfl (fun ls hl => ?_)
  refine W_loop (σ := Nat × (Nat → Value)) (D := (dC, dI)) (A := A) [] (fun (u : Nat × (Nat → Value)) => match u with | (i, g2) => [(3, .int (nI i)), (0, .ref h0), (1, .int (nI pv)), (2, .int (nI ev))]) (fun (u : Nat × (Nat → Value)) => match u with | (i, g2) => [(h0, .inr (11, mo g2)), (a30, .inl (cR, 160, .inl fW))]) (fun (u : Nat × (Nat → Value)) => match u with | (i, g2) => (i ≤ 10) ∧ (∀ q : Nat, q < i → ¬ (fW (pv + q)).toInt64 < 128) ∧ (g2 30 = .ref a30) ∧ (g2 31 = .long (vacc fW pv i)) ∧ (g2 32 = .int x32) ∧ (∀ k : Nat, k ≠ 31 → g2 k = g k)) (fun (u : Nat × (Nat → Value)) => match u with | (i, g2) => 10 - i) ?_ (0, g_1) ⟨(Nat.zero_le _), (fun q h => absurd h (by omega)), g_1h30, g_1h31, g_1h32, (fun k h => ung_1 k h)⟩ _ _ _ (hP.sub (ws' := [(h0, .inr (11, mo g_1)), (a30, .inl (cR, 160, .inl fW))]) [0, 1] rfl) (hD.sub (ws' := [(h0, .inr (11, mo g_1)), (a30, .inl (cR, 160, .inl fW))]) [0, 1] (by decide) rfl) hS (lv_sub hl [0, 1, 2, 3] rfl)
  intro u hI H locs ls hP hD hS hl ih
  obtain ⟨i, g2⟩ := u
  try dsimp only at hI
  obtain ⟨hi, hge, h30, h31, h32, hun⟩ := hI
  have hP : va_P (dC, dI) vwCl [(h0, .inr (11, mo g2)), (a30, .inl (cR, 160, .inl fW))] H := hP
  have hD : va_D A [(h0, .inr (11, mo g2)), (a30, .inl (cR, 160, .inl fW))] := hD
  have hl : lv_has ls 6 [(3, .int (nI i)), (0, .ref h0), (1, .int (nI pv)), (2, .int (nI ev))] := hl
  refine lv_iload_n hx hb dX9_varint_7 rfl (lv_at hl 0 rfl) ?_
  refine lv_bipush (v := 10) hx hb dX9_varint_8 (by decide) ?_
  refine lv_icmp_ge (tgt := 94) hx hb dX9_varint_10 (by decide) (fun c_2 => ?_) (fun c_2 => ?_)
  · refine lv_iconst (v := 0) hx hb dX9_varint_94 (by decide) ?_
    have hP9 := hP.sub (ws' := [(h0, .inr (11, mo g2)), (a30, .inl (cR, 160, .inl fW))]) [0, 1] rfl
    have hD9 := hD.sub (ws' := [(h0, .inr (11, mo g2)), (a30, .inl (cR, 160, .inl fW))]) [0, 1] (by decide) rfl
    have hK9 := hK.sub (tys' := []) [] rfl
    exact W.zret (v := 0) hx hb hr rfl (fun t ht hW => ⟨⟨0, (g2, 0, (vacc fW pv i), x32), rfl, ⟨Or.inr ⟨(fun k h => (Nat.lt_or_ge k i).elim (fun q => hge k q h.2.2.2.1) (fun q => absurd h.1 (by have := nI_leN (a := i) (b := 10) (by omega) (by decide) c_2; omega))), rfl⟩, h31, h32, (fun j h31 h32 => hun j h31)⟩, by rw [ht]; exact hP9, va_K.moved hW.alike hK9, hD9⟩, hS.F ht⟩) hS.2.2 dX9_varint_95
  · have hl10 : i < 10 := nI_ltN (b := 10) (by omega) (by decide) c_2
    refine lv_iload_n hx hb dX9_varint_13 rfl (lv_at hl 2 rfl) ?_
    refine lv_iload_n hx hb dX9_varint_14 rfl (lv_at hl 0 rfl) ?_
    refine lv_iadd hx hb dX9_varint_15 ?_
    refine W_toi (y := nI (pv + i)) (nI_add _ _) ?_
    refine lv_iload_n hx hb dX9_varint_16 rfl (lv_at hl 3 rfl) ?_
    refine lv_icmp_lt (tgt := 22) hx hb dX9_varint_17 (by decide) (fun c_3 => ?_) (fun c_3 => ?_)
    · have hlt : pv + i < ev := (nI_ltI (by omega) (by omega)).mp c_3
      refine lv_aload_n hx hb dX9_varint_22 rfl (lv_at hl 1 rfl) ?_
      refine va_get (D := (dC, dI)) (ci := 11) (v := .ref a30) (C := RX9) (T := TX9) (N := 60) hx hb hts iRX9 hown hK hP 0 rfl rfl 30 (by decide) (hts (.fieldLink RX9 81 "RecordBenchModel" "row" "[I") (by decide +kernel)) (fun _ h9 => h9) ((mo_get g2 (by decide)).trans (congrArg some h30)) dX9_varint_23 ?_
      refine lv_iload_n hx hb dX9_varint_26 rfl (lv_at hl 2 rfl) ?_
      refine lv_iload_n hx hb dX9_varint_27 rfl (lv_at hl 0 rfl) ?_
      refine lv_iadd hx hb dX9_varint_28 ?_
      refine W_toi (y := nI (pv + i)) (nI_add _ _) ?_
      refine va_iald hx hb hK hP 1 0 rfl rfl (vp_in_nI (by omega) (by decide)) dX9_varint_29 ?_
      refine W_toi (y := fW (pv + i)) (by rw [nI_clamp (by omega)]) ?_
      refine lv_i2l (v := (fW (pv + i)).toInt64) hx hb dX9_varint_30 rfl ?_
      refine lv_lstore (lv' := [(4, .long ((fW (pv + i)).toInt64)), (3, .int (nI i)), (0, .ref h0), (1, .int (nI pv)), (2, .int (nI ev))]) hx hb dX9_varint_31 hl (by decide) rfl (fun ls hl => ?_)
      refine lv_iload_n hx hb dX9_varint_33 rfl (lv_at hl 1 rfl) ?_
      refine lv_bipush (v := 9) hx hb dX9_varint_34 (by decide) ?_
      refine lv_icmp_ne (tgt := 48) hx hb dX9_varint_36 (by decide) (fun c_5 => ?_) (fun c_5 => ?_)
      · refine lv_aload_n hx hb dX9_varint_48 rfl (lv_at hl 2 rfl) ?_
        refine lv_dup hx hb dX9_varint_49 rfl ?_
        refine va_get (D := (dC, dI)) (ci := 11) (v := .long (vacc fW pv i)) (C := RX9) (T := TX9) (N := 60) hx hb hts iRX9 hown hK hP 0 rfl rfl 31 (by decide) (hts (.fieldLink RX9 252 "RecordBenchModel" "varint" "J") (by decide +kernel)) (fun _ h9 => h9) ((mo_get g2 (by decide)).trans (congrArg some h31)) dX9_varint_50 ?_
        refine lv_lload hx hb dX9_varint_53 (lv_at hl 0 rfl) ?_
        refine lv_ldc2 hx hb hown (hts (.constantLong RX9 217 (127)) (by decide +kernel)) dX9_varint_55 ?_
        refine lv_land hx hb dX9_varint_58 ?_
        refine lv_bipush (v := 7) hx hb dX9_varint_59 (by decide) ?_
        refine lv_iload_n hx hb dX9_varint_61 rfl (lv_at hl 1 rfl) ?_
        refine lv_imul hx hb dX9_varint_62 ?_
        refine lv_lshl (v := (((fW (pv + i)).toInt64) &&& 127 : Int64) <<< ((7 * (nI i) : Int32).toInt64 &&& 63)) hx hb dX9_varint_63 rfl ?_
        refine lv_lor hx hb dX9_varint_64 ?_
        refine va_put (D := (dC, dI)) (ci := 11) (v := .long ((vacc fW pv i) ||| ((((fW (pv + i)).toInt64) &&& 127 : Int64) <<< ((7 * (nI i) : Int32).toInt64 &&& 63)))) (ty := .long) (C := RX9) (T := TX9) (N := 60) hx hb hts iRX9 tyX9 tyX9_ok nmX9 hown hK hP hD hS 0 rfl rfl 31 (by decide) (hts (.fieldLink RX9 252 "RecordBenchModel" "varint" "J") (by decide +kernel)) (fun _ h9 => h9) rfl (by decide +kernel) rfl rfl (by rw [mo_len]; decide) dX9_varint_65 (fun H locs hP hD hS => ?_)
        obtain ⟨g_7, eg_7⟩ : ∃ y, y = va_up g2 31 (.long ((vacc fW pv i) ||| ((((fW (pv + i)).toInt64) &&& 127 : Int64) <<< ((7 * (nI i) : Int32).toInt64 &&& 63)))) := ⟨_, rfl⟩
        have hP : va_P (dC, dI) vwCl [(h0, .inr (11, mo g_7)), (a30, .inl (cR, 160, .inl fW))] H := by rw [eg_7, ← mo_set g2 (by decide)]; exact hP
        have hD : va_D A [(h0, .inr (11, mo g_7)), (a30, .inl (cR, 160, .inl fW))] := by rw [eg_7, ← mo_set g2 (by decide)]; exact hD
        have g_7h30 : g_7 30 = .ref a30 := by rw [eg_7, va_up_ne _ _ (by decide)]; exact h30
        have g_7h32 : g_7 32 = .int x32 := by rw [eg_7, va_up_ne _ _ (by decide)]; exact h32
        have g_7h31 : g_7 31 = .long ((vacc fW pv i) ||| ((((fW (pv + i)).toInt64) &&& 127 : Int64) <<< ((7 * (nI i) : Int32).toInt64 &&& 63))) := by rw [eg_7, va_up_self]
        have ung_7 : ∀ j : Nat, j ≠ 31 → g_7 j = g j := fun j h31 => by rw [eg_7, va_up_ne _ _ h31]; exact hun j h31
        refine lv_lload hx hb dX9_varint_68 (lv_at hl 0 rfl) ?_
        refine lv_ldc2 hx hb hown (hts (.constantLong RX9 255 (128)) (by decide +kernel)) dX9_varint_70 ?_
        refine W.lcmp hx hb dX9_varint_73 ?_
        refine lv_if_ge (tgt := 88) hx hb dX9_varint_74 (by decide) (fun c_8 => ?_) (fun c_8 => ?_)
        · refine lv_iinc (v := nI (i + 1)) (lv' := [(3, .int (nI (i + 1))), (4, .long ((fW (pv + i)).toInt64)), (0, .ref h0), (1, .int (nI pv)), (2, .int (nI ev))]) hx hb dX9_varint_88 hl (k := 1) rfl (nI_1 i) (by decide) rfl (fun ls hl => ?_)
          refine lv_goto (tgt := 7) hx hb dX9_varint_91 (by decide) ?_
          exact ih ((i + 1), g_7) (by show 10 - (i + 1) < 10 - i; omega) ⟨(by omega), (fun q h => (Nat.lt_or_ge q i).elim (fun h3 => hge q h3) (fun h3 => by rw [show q = i by omega]; exact Int64.not_lt.mpr ((lg_cmp_ge _ _).mp c_8))), g_7h30, g_7h31, g_7h32, (fun k h => ung_7 k h)⟩ _ _ _ (hP.sub (ws' := [(h0, .inr (11, mo g_7)), (a30, .inl (cR, 160, .inl fW))]) [0, 1] rfl) (hD.sub (ws' := [(h0, .inr (11, mo g_7)), (a30, .inl (cR, 160, .inl fW))]) [0, 1] (by decide) rfl) hS (lv_sub hl [0, 2, 3, 4] rfl)
        · refine lv_aload_n hx hb dX9_varint_77 rfl (lv_at hl 2 rfl) ?_
          refine lv_iload_n hx hb dX9_varint_78 rfl (lv_at hl 3 rfl) ?_
          refine lv_iload_n hx hb dX9_varint_79 rfl (lv_at hl 1 rfl) ?_
          refine lv_iadd hx hb dX9_varint_80 ?_
          refine W_toi (y := nI (pv + i)) (nI_add _ _) ?_
          refine lv_iconst (v := 1) hx hb dX9_varint_81 (by decide) ?_
          refine lv_iadd hx hb dX9_varint_82 ?_
          refine W_toi (y := nI (pv + i + 1)) (nI_1 _) ?_
          refine va_put (D := (dC, dI)) (ci := 11) (v := .int (nI (pv + i + 1))) (ty := .int) (C := RX9) (T := TX9) (N := 60) hx hb hts iRX9 tyX9 tyX9_ok nmX9 hown hK hP hD hS 0 rfl rfl 32 (by decide) (hts (.fieldLink RX9 257 "RecordBenchModel" "varintEnd" "I") (by decide +kernel)) (fun _ h9 => h9) rfl (by decide +kernel) rfl rfl (by rw [mo_len]; decide) dX9_varint_83 (fun H locs hP hD hS => ?_)
          obtain ⟨g_9, eg_9⟩ : ∃ y, y = va_up g_7 32 (.int (nI (pv + i + 1))) := ⟨_, rfl⟩
          have hP : va_P (dC, dI) vwCl [(h0, .inr (11, mo g_9)), (a30, .inl (cR, 160, .inl fW))] H := by rw [eg_9, ← mo_set g_7 (by decide)]; exact hP
          have hD : va_D A [(h0, .inr (11, mo g_9)), (a30, .inl (cR, 160, .inl fW))] := by rw [eg_9, ← mo_set g_7 (by decide)]; exact hD
          have g_9h30 : g_9 30 = .ref a30 := by rw [eg_9, va_up_ne _ _ (by decide)]; exact g_7h30
          have g_9h31 : g_9 31 = .long ((vacc fW pv i) ||| ((((fW (pv + i)).toInt64) &&& 127 : Int64) <<< ((7 * (nI i) : Int32).toInt64 &&& 63))) := by rw [eg_9, va_up_ne _ _ (by decide)]; exact g_7h31
          have g_9h32 : g_9 32 = .int (nI (pv + i + 1)) := by rw [eg_9, va_up_self]
          have ung_9 : ∀ j : Nat, j ≠ 31 → j ≠ 32 → g_9 j = g j := fun j h31 h32 => by rw [eg_9, va_up_ne _ _ h32]; exact ung_7 j h31
          refine lv_iconst (v := 1) hx hb dX9_varint_86 (by decide) ?_
          have hP9 := hP.sub (ws' := [(h0, .inr (11, mo g_9)), (a30, .inl (cR, 160, .inl fW))]) [0, 1] rfl
          have hD9 := hD.sub (ws' := [(h0, .inr (11, mo g_9)), (a30, .inl (cR, 160, .inl fW))]) [0, 1] (by decide) rfl
          have hK9 := hK.sub (tys' := []) [] rfl
          exact W.zret (v := 1) hx hb hr rfl (fun t ht hW => ⟨⟨1, (g_9, i, ((vacc fW pv i) ||| ((((fW (pv + i)).toInt64) &&& 127 : Int64) <<< ((7 * (nI i) : Int32).toInt64 &&& 63))), (nI (pv + i + 1))), rfl, ⟨Or.inl ⟨⟨hl10, hlt, hge, Int64.not_le.mp (fun h => c_8 ((lg_cmp_ge _ _).mpr h)), fun h9 => absurd (by rw [h9]; rfl) c_5⟩, rfl, rfl, rfl⟩, g_9h31, g_9h32, (fun j h31 h32 => ung_9 j h31 h32)⟩, by rw [ht]; exact hP9, va_K.moved hW.alike hK9, hD9⟩, hS.F ht⟩) hS.2.2 dX9_varint_87
      · refine lv_lload hx hb dX9_varint_39 (lv_at hl 0 rfl) ?_
        refine lv_lconst (v := 1) hx hb dX9_varint_41 (by decide) ?_
        refine W.lcmp hx hb dX9_varint_42 ?_
        refine lv_if_le (tgt := 48) hx hb dX9_varint_43 (by decide) (fun c_10 => ?_) (fun c_10 => ?_)
        · refine lv_aload_n hx hb dX9_varint_48 rfl (lv_at hl 2 rfl) ?_
          refine lv_dup hx hb dX9_varint_49 rfl ?_
          refine va_get (D := (dC, dI)) (ci := 11) (v := .long (vacc fW pv i)) (C := RX9) (T := TX9) (N := 60) hx hb hts iRX9 hown hK hP 0 rfl rfl 31 (by decide) (hts (.fieldLink RX9 252 "RecordBenchModel" "varint" "J") (by decide +kernel)) (fun _ h9 => h9) ((mo_get g2 (by decide)).trans (congrArg some h31)) dX9_varint_50 ?_
          refine lv_lload hx hb dX9_varint_53 (lv_at hl 0 rfl) ?_
          refine lv_ldc2 hx hb hown (hts (.constantLong RX9 217 (127)) (by decide +kernel)) dX9_varint_55 ?_
          refine lv_land hx hb dX9_varint_58 ?_
          refine lv_bipush (v := 7) hx hb dX9_varint_59 (by decide) ?_
          refine lv_iload_n hx hb dX9_varint_61 rfl (lv_at hl 1 rfl) ?_
          refine lv_imul hx hb dX9_varint_62 ?_
          refine lv_lshl (v := (((fW (pv + i)).toInt64) &&& 127 : Int64) <<< ((7 * (nI i) : Int32).toInt64 &&& 63)) hx hb dX9_varint_63 rfl ?_
          refine lv_lor hx hb dX9_varint_64 ?_
          refine va_put (D := (dC, dI)) (ci := 11) (v := .long ((vacc fW pv i) ||| ((((fW (pv + i)).toInt64) &&& 127 : Int64) <<< ((7 * (nI i) : Int32).toInt64 &&& 63)))) (ty := .long) (C := RX9) (T := TX9) (N := 60) hx hb hts iRX9 tyX9 tyX9_ok nmX9 hown hK hP hD hS 0 rfl rfl 31 (by decide) (hts (.fieldLink RX9 252 "RecordBenchModel" "varint" "J") (by decide +kernel)) (fun _ h9 => h9) rfl (by decide +kernel) rfl rfl (by rw [mo_len]; decide) dX9_varint_65 (fun H locs hP hD hS => ?_)
          obtain ⟨g_12, eg_12⟩ : ∃ y, y = va_up g2 31 (.long ((vacc fW pv i) ||| ((((fW (pv + i)).toInt64) &&& 127 : Int64) <<< ((7 * (nI i) : Int32).toInt64 &&& 63)))) := ⟨_, rfl⟩
          have hP : va_P (dC, dI) vwCl [(h0, .inr (11, mo g_12)), (a30, .inl (cR, 160, .inl fW))] H := by rw [eg_12, ← mo_set g2 (by decide)]; exact hP
          have hD : va_D A [(h0, .inr (11, mo g_12)), (a30, .inl (cR, 160, .inl fW))] := by rw [eg_12, ← mo_set g2 (by decide)]; exact hD
          have g_12h30 : g_12 30 = .ref a30 := by rw [eg_12, va_up_ne _ _ (by decide)]; exact h30
          have g_12h32 : g_12 32 = .int x32 := by rw [eg_12, va_up_ne _ _ (by decide)]; exact h32
          have g_12h31 : g_12 31 = .long ((vacc fW pv i) ||| ((((fW (pv + i)).toInt64) &&& 127 : Int64) <<< ((7 * (nI i) : Int32).toInt64 &&& 63))) := by rw [eg_12, va_up_self]
          have ung_12 : ∀ j : Nat, j ≠ 31 → g_12 j = g j := fun j h31 => by rw [eg_12, va_up_ne _ _ h31]; exact hun j h31
          refine lv_lload hx hb dX9_varint_68 (lv_at hl 0 rfl) ?_
          refine lv_ldc2 hx hb hown (hts (.constantLong RX9 255 (128)) (by decide +kernel)) dX9_varint_70 ?_
          refine W.lcmp hx hb dX9_varint_73 ?_
          refine lv_if_ge (tgt := 88) hx hb dX9_varint_74 (by decide) (fun c_13 => ?_) (fun c_13 => ?_)
          · refine lv_iinc (v := nI (i + 1)) (lv' := [(3, .int (nI (i + 1))), (4, .long ((fW (pv + i)).toInt64)), (0, .ref h0), (1, .int (nI pv)), (2, .int (nI ev))]) hx hb dX9_varint_88 hl (k := 1) rfl (nI_1 i) (by decide) rfl (fun ls hl => ?_)
            refine lv_goto (tgt := 7) hx hb dX9_varint_91 (by decide) ?_
            exact ih ((i + 1), g_12) (by show 10 - (i + 1) < 10 - i; omega) ⟨(by omega), (fun q h => (Nat.lt_or_ge q i).elim (fun h3 => hge q h3) (fun h3 => by rw [show q = i by omega]; exact Int64.not_lt.mpr ((lg_cmp_ge _ _).mp c_13))), g_12h30, g_12h31, g_12h32, (fun k h => ung_12 k h)⟩ _ _ _ (hP.sub (ws' := [(h0, .inr (11, mo g_12)), (a30, .inl (cR, 160, .inl fW))]) [0, 1] rfl) (hD.sub (ws' := [(h0, .inr (11, mo g_12)), (a30, .inl (cR, 160, .inl fW))]) [0, 1] (by decide) rfl) hS (lv_sub hl [0, 2, 3, 4] rfl)
          · refine lv_aload_n hx hb dX9_varint_77 rfl (lv_at hl 2 rfl) ?_
            refine lv_iload_n hx hb dX9_varint_78 rfl (lv_at hl 3 rfl) ?_
            refine lv_iload_n hx hb dX9_varint_79 rfl (lv_at hl 1 rfl) ?_
            refine lv_iadd hx hb dX9_varint_80 ?_
            refine W_toi (y := nI (pv + i)) (nI_add _ _) ?_
            refine lv_iconst (v := 1) hx hb dX9_varint_81 (by decide) ?_
            refine lv_iadd hx hb dX9_varint_82 ?_
            refine W_toi (y := nI (pv + i + 1)) (nI_1 _) ?_
            refine va_put (D := (dC, dI)) (ci := 11) (v := .int (nI (pv + i + 1))) (ty := .int) (C := RX9) (T := TX9) (N := 60) hx hb hts iRX9 tyX9 tyX9_ok nmX9 hown hK hP hD hS 0 rfl rfl 32 (by decide) (hts (.fieldLink RX9 257 "RecordBenchModel" "varintEnd" "I") (by decide +kernel)) (fun _ h9 => h9) rfl (by decide +kernel) rfl rfl (by rw [mo_len]; decide) dX9_varint_83 (fun H locs hP hD hS => ?_)
            obtain ⟨g_14, eg_14⟩ : ∃ y, y = va_up g_12 32 (.int (nI (pv + i + 1))) := ⟨_, rfl⟩
            have hP : va_P (dC, dI) vwCl [(h0, .inr (11, mo g_14)), (a30, .inl (cR, 160, .inl fW))] H := by rw [eg_14, ← mo_set g_12 (by decide)]; exact hP
            have hD : va_D A [(h0, .inr (11, mo g_14)), (a30, .inl (cR, 160, .inl fW))] := by rw [eg_14, ← mo_set g_12 (by decide)]; exact hD
            have g_14h30 : g_14 30 = .ref a30 := by rw [eg_14, va_up_ne _ _ (by decide)]; exact g_12h30
            have g_14h31 : g_14 31 = .long ((vacc fW pv i) ||| ((((fW (pv + i)).toInt64) &&& 127 : Int64) <<< ((7 * (nI i) : Int32).toInt64 &&& 63))) := by rw [eg_14, va_up_ne _ _ (by decide)]; exact g_12h31
            have g_14h32 : g_14 32 = .int (nI (pv + i + 1)) := by rw [eg_14, va_up_self]
            have ung_14 : ∀ j : Nat, j ≠ 31 → j ≠ 32 → g_14 j = g j := fun j h31 h32 => by rw [eg_14, va_up_ne _ _ h32]; exact ung_12 j h31
            refine lv_iconst (v := 1) hx hb dX9_varint_86 (by decide) ?_
            have hP9 := hP.sub (ws' := [(h0, .inr (11, mo g_14)), (a30, .inl (cR, 160, .inl fW))]) [0, 1] rfl
            have hD9 := hD.sub (ws' := [(h0, .inr (11, mo g_14)), (a30, .inl (cR, 160, .inl fW))]) [0, 1] (by decide) rfl
            have hK9 := hK.sub (tys' := []) [] rfl
            exact W.zret (v := 1) hx hb hr rfl (fun t ht hW => ⟨⟨1, (g_14, i, ((vacc fW pv i) ||| ((((fW (pv + i)).toInt64) &&& 127 : Int64) <<< ((7 * (nI i) : Int32).toInt64 &&& 63))), (nI (pv + i + 1))), rfl, ⟨Or.inl ⟨⟨hl10, hlt, hge, Int64.not_le.mp (fun h => c_13 ((lg_cmp_ge _ _).mpr h)), fun h9 => by rw [← h9]; exact Int64.not_lt.mpr ((lg_cmp_le _ _).mp c_10)⟩, rfl, rfl, rfl⟩, g_14h31, g_14h32, (fun j h31 h32 => ung_14 j h31 h32)⟩, by rw [ht]; exact hP9, va_K.moved hW.alike hK9, hD9⟩, hS.F ht⟩) hS.2.2 dX9_varint_87
        · refine lv_iconst (v := 0) hx hb dX9_varint_46 (by decide) ?_
          have hP9 := hP.sub (ws' := [(h0, .inr (11, mo g2)), (a30, .inl (cR, 160, .inl fW))]) [0, 1] rfl
          have hD9 := hD.sub (ws' := [(h0, .inr (11, mo g2)), (a30, .inl (cR, 160, .inl fW))]) [0, 1] (by decide) rfl
          have hK9 := hK.sub (tys' := []) [] rfl
          exact W.zret (v := 0) hx hb hr rfl (fun t ht hW => ⟨⟨0, (g2, 0, (vacc fW pv i), x32), rfl, ⟨Or.inr ⟨(fun k h => (Nat.lt_or_ge k i).elim (fun q => hge k q h.2.2.2.1) (fun q => h.2.2.2.2 (by have e9 : i = 9 := (nI_eq (b := 9) (by omega) (by decide)).mp c_5; have := h.1; omega) (by have e9 : i = 9 := (nI_eq (b := 9) (by omega) (by decide)).mp c_5; rw [← e9]; exact Int64.not_le.mp (fun w => c_10 ((lg_cmp_le _ _).mpr w))))), rfl⟩, h31, h32, (fun j h31 h32 => hun j h31)⟩, by rw [ht]; exact hP9, va_K.moved hW.alike hK9, hD9⟩, hS.F ht⟩) hS.2.2 dX9_varint_47
    · have hnl : ev ≤ pv + i := Nat.le_of_not_lt (fun w => c_3 ((nI_ltI (a := pv + i) (b := ev) (by omega) (by omega)).mpr w))
      refine lv_iconst (v := 0) hx hb dX9_varint_20 (by decide) ?_
      have hP9 := hP.sub (ws' := [(h0, .inr (11, mo g2)), (a30, .inl (cR, 160, .inl fW))]) [0, 1] rfl
      have hD9 := hD.sub (ws' := [(h0, .inr (11, mo g2)), (a30, .inl (cR, 160, .inl fW))]) [0, 1] (by decide) rfl
      have hK9 := hK.sub (tys' := []) [] rfl
      exact W.zret (v := 0) hx hb hr rfl (fun t ht hW => ⟨⟨0, (g2, 0, (vacc fW pv i), x32), rfl, ⟨Or.inr ⟨(fun k h => (Nat.lt_or_ge k i).elim (fun q => hge k q h.2.2.2.1) (fun q => absurd h.2.1 (by omega))), rfl⟩, h31, h32, (fun j h31 h32 => hun j h31)⟩, by rw [ht]; exact hP9, va_K.moved hW.alike hK9, hD9⟩, hS.F ht⟩) hS.2.2 dX9_varint_21
