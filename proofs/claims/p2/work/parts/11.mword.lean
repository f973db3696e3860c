theorem dX9_isOf_0 : decode cX9_isOf 0 = .ok (.iload_n 2, 1) := by decide +kernel
theorem dX9_isOf_1 : decode cX9_isOf 1 = .ok (.iconst 1, 1) := by decide +kernel
theorem dX9_isOf_11 : decode cX9_isOf 11 = .ok (.lload_n 0, 1) := by decide +kernel
theorem dX9_isOf_12 : decode cX9_isOf 12 = .ok (.lconst 1, 1) := by decide +kernel
theorem dX9_isOf_13 : decode cX9_isOf 13 = .ok (.lcmp, 1) := by decide +kernel
theorem dX9_isOf_14 : decode cX9_isOf 14 = .ok (.ifCond .ne 7, 3) := by decide +kernel
theorem dX9_isOf_17 : decode cX9_isOf 17 = .ok (.iconst 1, 1) := by decide +kernel
theorem dX9_isOf_18 : decode cX9_isOf 18 = .ok (.goto 62, 3) := by decide +kernel
theorem dX9_isOf_2 : decode cX9_isOf 2 = .ok (.if_icmp .ne 23, 3) := by decide +kernel
theorem dX9_isOf_21 : decode cX9_isOf 21 = .ok (.iconst 0, 1) := by decide +kernel
theorem dX9_isOf_22 : decode cX9_isOf 22 = .ok (.goto 58, 3) := by decide +kernel
theorem dX9_isOf_25 : decode cX9_isOf 25 = .ok (.iload_n 2, 1) := by decide +kernel
theorem dX9_isOf_26 : decode cX9_isOf 26 = .ok (.iconst 2, 1) := by decide +kernel
theorem dX9_isOf_27 : decode cX9_isOf 27 = .ok (.if_icmp .ne 27, 3) := by decide +kernel
theorem dX9_isOf_30 : decode cX9_isOf 30 = .ok (.lload_n 0, 1) := by decide +kernel
theorem dX9_isOf_31 : decode cX9_isOf 31 = .ok (.ldc2_w 215, 3) := by decide +kernel
theorem dX9_isOf_34 : decode cX9_isOf 34 = .ok (.lcmp, 1) := by decide +kernel
theorem dX9_isOf_35 : decode cX9_isOf 35 = .ok (.ifCond .lt 15, 3) := by decide +kernel
theorem dX9_isOf_38 : decode cX9_isOf 38 = .ok (.lload_n 0, 1) := by decide +kernel
theorem dX9_isOf_39 : decode cX9_isOf 39 = .ok (.ldc2_w 217, 3) := by decide +kernel
theorem dX9_isOf_42 : decode cX9_isOf 42 = .ok (.lcmp, 1) := by decide +kernel
theorem dX9_isOf_43 : decode cX9_isOf 43 = .ok (.ifCond .gt 7, 3) := by decide +kernel
theorem dX9_isOf_46 : decode cX9_isOf 46 = .ok (.iconst 1, 1) := by decide +kernel
theorem dX9_isOf_47 : decode cX9_isOf 47 = .ok (.goto 33, 3) := by decide +kernel
theorem dX9_isOf_5 : decode cX9_isOf 5 = .ok (.lload_n 0, 1) := by decide +kernel
theorem dX9_isOf_50 : decode cX9_isOf 50 = .ok (.iconst 0, 1) := by decide +kernel
theorem dX9_isOf_51 : decode cX9_isOf 51 = .ok (.goto 29, 3) := by decide +kernel
theorem dX9_isOf_54 : decode cX9_isOf 54 = .ok (.iload_n 2, 1) := by decide +kernel
theorem dX9_isOf_55 : decode cX9_isOf 55 = .ok (.iconst 4, 1) := by decide +kernel
theorem dX9_isOf_56 : decode cX9_isOf 56 = .ok (.if_icmp .eq 19, 3) := by decide +kernel
theorem dX9_isOf_59 : decode cX9_isOf 59 = .ok (.lload_n 0, 1) := by decide +kernel
theorem dX9_isOf_6 : decode cX9_isOf 6 = .ok (.lconst 0, 1) := by decide +kernel
theorem dX9_isOf_60 : decode cX9_isOf 60 = .ok (.ldc2_w 219, 3) := by decide +kernel
theorem dX9_isOf_63 : decode cX9_isOf 63 = .ok (.lcmp, 1) := by decide +kernel
theorem dX9_isOf_64 : decode cX9_isOf 64 = .ok (.ifCond .lt 15, 3) := by decide +kernel
theorem dX9_isOf_67 : decode cX9_isOf 67 = .ok (.lload_n 0, 1) := by decide +kernel
theorem dX9_isOf_68 : decode cX9_isOf 68 = .ok (.ldc2_w 221, 3) := by decide +kernel
theorem dX9_isOf_7 : decode cX9_isOf 7 = .ok (.lcmp, 1) := by decide +kernel
theorem dX9_isOf_71 : decode cX9_isOf 71 = .ok (.lcmp, 1) := by decide +kernel
theorem dX9_isOf_72 : decode cX9_isOf 72 = .ok (.ifCond .gt 7, 3) := by decide +kernel
theorem dX9_isOf_75 : decode cX9_isOf 75 = .ok (.iconst 1, 1) := by decide +kernel
theorem dX9_isOf_76 : decode cX9_isOf 76 = .ok (.goto 4, 3) := by decide +kernel
theorem dX9_isOf_79 : decode cX9_isOf 79 = .ok (.iconst 0, 1) := by decide +kernel
theorem dX9_isOf_8 : decode cX9_isOf 8 = .ok (.ifCond .eq 9, 3) := by decide +kernel
theorem dX9_isOf_80 : decode cX9_isOf 80 = .ok (.ireturn, 1) := by decide +kernel
theorem dX9_kindOf_0 : decode cX9_kindOf 0 = .ok (.lload_n 1, 1) := by decide +kernel
theorem dX9_kindOf_1 : decode cX9_kindOf 1 = .ok (.aload_n 0, 1) := by decide +kernel
theorem dX9_kindOf_10 : decode cX9_kindOf 10 = .ok (.goto 70, 3) := by decide +kernel
theorem dX9_kindOf_13 : decode cX9_kindOf 13 = .ok (.lload_n 1, 1) := by decide +kernel
theorem dX9_kindOf_14 : decode cX9_kindOf 14 = .ok (.aload_n 0, 1) := by decide +kernel
theorem dX9_kindOf_15 : decode cX9_kindOf 15 = .ok (.getfield 57, 3) := by decide +kernel
theorem dX9_kindOf_18 : decode cX9_kindOf 18 = .ok (.lcmp, 1) := by decide +kernel
theorem dX9_kindOf_19 : decode cX9_kindOf 19 = .ok (.ifCond .ne 7, 3) := by decide +kernel
theorem dX9_kindOf_2 : decode cX9_kindOf 2 = .ok (.getfield 54, 3) := by decide +kernel
theorem dX9_kindOf_22 : decode cX9_kindOf 22 = .ok (.iconst 2, 1) := by decide +kernel
theorem dX9_kindOf_23 : decode cX9_kindOf 23 = .ok (.goto 57, 3) := by decide +kernel
theorem dX9_kindOf_26 : decode cX9_kindOf 26 = .ok (.lload_n 1, 1) := by decide +kernel
theorem dX9_kindOf_27 : decode cX9_kindOf 27 = .ok (.aload_n 0, 1) := by decide +kernel
theorem dX9_kindOf_28 : decode cX9_kindOf 28 = .ok (.getfield 60, 3) := by decide +kernel
theorem dX9_kindOf_31 : decode cX9_kindOf 31 = .ok (.lcmp, 1) := by decide +kernel
theorem dX9_kindOf_32 : decode cX9_kindOf 32 = .ok (.ifCond .ne 7, 3) := by decide +kernel
theorem dX9_kindOf_35 : decode cX9_kindOf 35 = .ok (.iconst 3, 1) := by decide +kernel
theorem dX9_kindOf_36 : decode cX9_kindOf 36 = .ok (.goto 44, 3) := by decide +kernel
theorem dX9_kindOf_39 : decode cX9_kindOf 39 = .ok (.lload_n 1, 1) := by decide +kernel
theorem dX9_kindOf_40 : decode cX9_kindOf 40 = .ok (.aload_n 0, 1) := by decide +kernel
theorem dX9_kindOf_41 : decode cX9_kindOf 41 = .ok (.getfield 63, 3) := by decide +kernel
theorem dX9_kindOf_44 : decode cX9_kindOf 44 = .ok (.lcmp, 1) := by decide +kernel
theorem dX9_kindOf_45 : decode cX9_kindOf 45 = .ok (.ifCond .ne 7, 3) := by decide +kernel
theorem dX9_kindOf_48 : decode cX9_kindOf 48 = .ok (.iconst 4, 1) := by decide +kernel
theorem dX9_kindOf_49 : decode cX9_kindOf 49 = .ok (.goto 31, 3) := by decide +kernel
theorem dX9_kindOf_5 : decode cX9_kindOf 5 = .ok (.lcmp, 1) := by decide +kernel
theorem dX9_kindOf_52 : decode cX9_kindOf 52 = .ok (.lload_n 1, 1) := by decide +kernel
theorem dX9_kindOf_53 : decode cX9_kindOf 53 = .ok (.aload_n 0, 1) := by decide +kernel
theorem dX9_kindOf_54 : decode cX9_kindOf 54 = .ok (.getfield 66, 3) := by decide +kernel
theorem dX9_kindOf_57 : decode cX9_kindOf 57 = .ok (.lcmp, 1) := by decide +kernel
theorem dX9_kindOf_58 : decode cX9_kindOf 58 = .ok (.ifCond .ne 7, 3) := by decide +kernel
theorem dX9_kindOf_6 : decode cX9_kindOf 6 = .ok (.ifCond .ne 7, 3) := by decide +kernel
theorem dX9_kindOf_61 : decode cX9_kindOf 61 = .ok (.iconst 5, 1) := by decide +kernel
theorem dX9_kindOf_62 : decode cX9_kindOf 62 = .ok (.goto 18, 3) := by decide +kernel
theorem dX9_kindOf_65 : decode cX9_kindOf 65 = .ok (.lload_n 1, 1) := by decide +kernel
theorem dX9_kindOf_66 : decode cX9_kindOf 66 = .ok (.aload_n 0, 1) := by decide +kernel
theorem dX9_kindOf_67 : decode cX9_kindOf 67 = .ok (.getfield 69, 3) := by decide +kernel
theorem dX9_kindOf_70 : decode cX9_kindOf 70 = .ok (.lcmp, 1) := by decide +kernel
theorem dX9_kindOf_71 : decode cX9_kindOf 71 = .ok (.ifCond .ne 8, 3) := by decide +kernel
theorem dX9_kindOf_74 : decode cX9_kindOf 74 = .ok (.bipush 6, 2) := by decide +kernel
theorem dX9_kindOf_76 : decode cX9_kindOf 76 = .ok (.goto 4, 3) := by decide +kernel
theorem dX9_kindOf_79 : decode cX9_kindOf 79 = .ok (.iconst (-1), 1) := by decide +kernel
theorem dX9_kindOf_80 : decode cX9_kindOf 80 = .ok (.ireturn, 1) := by decide +kernel
theorem dX9_kindOf_9 : decode cX9_kindOf 9 = .ok (.iconst 1, 1) := by decide +kernel
theorem dX9_word_0 : decode cX9_word 0 = .ok (.aload_n 0, 1) := by decide +kernel
theorem dX9_word_1 : decode cX9_word 1 = .ok (.invokevirtual 150, 3) := by decide +kernel
theorem dX9_word_11 : decode cX9_word 11 = .ok (.istore_n 3, 1) := by decide +kernel
theorem dX9_word_12 : decode cX9_word 12 = .ok (.iload_n 3, 1) := by decide +kernel
theorem dX9_word_13 : decode cX9_word 13 = .ok (.aload_n 0, 1) := by decide +kernel
theorem dX9_word_14 : decode cX9_word 14 = .ok (.getfield 141, 3) := by decide +kernel
theorem dX9_word_17 : decode cX9_word 17 = .ok (.isub, 1) := by decide +kernel
theorem dX9_word_18 : decode cX9_word 18 = .ok (.bipush 8, 2) := by decide +kernel
theorem dX9_word_20 : decode cX9_word 20 = .ok (.if_icmp .le 7, 3) := by decide +kernel
theorem dX9_word_23 : decode cX9_word 23 = .ok (.ldc2_w 175, 3) := by decide +kernel
theorem dX9_word_26 : decode cX9_word 26 = .ok (.lreturn, 1) := by decide +kernel
theorem dX9_word_27 : decode cX9_word 27 = .ok (.aload_n 0, 1) := by decide +kernel
theorem dX9_word_28 : decode cX9_word 28 = .ok (.getfield 141, 3) := by decide +kernel
theorem dX9_word_31 : decode cX9_word 31 = .ok (.istore 4, 2) := by decide +kernel
theorem dX9_word_33 : decode cX9_word 33 = .ok (.iload 4, 2) := by decide +kernel
theorem dX9_word_35 : decode cX9_word 35 = .ok (.iload_n 3, 1) := by decide +kernel
theorem dX9_word_36 : decode cX9_word 36 = .ok (.if_icmp .ge 30, 3) := by decide +kernel
theorem dX9_word_39 : decode cX9_word 39 = .ok (.ldc2_w 168, 3) := by decide +kernel
theorem dX9_word_4 : decode cX9_word 4 = .ok (.pop, 1) := by decide +kernel
theorem dX9_word_42 : decode cX9_word 42 = .ok (.lload_n 1, 1) := by decide +kernel
theorem dX9_word_43 : decode cX9_word 43 = .ok (.lmul, 1) := by decide +kernel
theorem dX9_word_44 : decode cX9_word 44 = .ok (.aload_n 0, 1) := by decide +kernel
theorem dX9_word_45 : decode cX9_word 45 = .ok (.getfield 39, 3) := by decide +kernel
theorem dX9_word_48 : decode cX9_word 48 = .ok (.iload 4, 2) := by decide +kernel
theorem dX9_word_5 : decode cX9_word 5 = .ok (.lconst 0, 1) := by decide +kernel
theorem dX9_word_50 : decode cX9_word 50 = .ok (.iaload, 1) := by decide +kernel
theorem dX9_word_51 : decode cX9_word 51 = .ok (.i2l, 1) := by decide +kernel
theorem dX9_word_52 : decode cX9_word 52 = .ok (.ladd, 1) := by decide +kernel
theorem dX9_word_53 : decode cX9_word 53 = .ok (.ldc2_w 170, 3) := by decide +kernel
theorem dX9_word_56 : decode cX9_word 56 = .ok (.lsub, 1) := by decide +kernel
theorem dX9_word_57 : decode cX9_word 57 = .ok (.lconst 1, 1) := by decide +kernel
theorem dX9_word_58 : decode cX9_word 58 = .ok (.ladd, 1) := by decide +kernel
theorem dX9_word_59 : decode cX9_word 59 = .ok (.lstore_n 1, 1) := by decide +kernel
theorem dX9_word_6 : decode cX9_word 6 = .ok (.lstore_n 1, 1) := by decide +kernel
theorem dX9_word_60 : decode cX9_word 60 = .ok (.iinc 4 1, 3) := by decide +kernel
theorem dX9_word_63 : decode cX9_word 63 = .ok (.goto (-30), 3) := by decide +kernel
theorem dX9_word_66 : decode cX9_word 66 = .ok (.lload_n 1, 1) := by decide +kernel
theorem dX9_word_67 : decode cX9_word 67 = .ok (.lreturn, 1) := by decide +kernel
theorem dX9_word_7 : decode cX9_word 7 = .ok (.aload_n 0, 1) := by decide +kernel
theorem dX9_word_8 : decode cX9_word 8 = .ok (.invokevirtual 172, 3) := by decide +kernel
def wp_X9_word : List Cond := .code yX9_word cX9_word 5 (some .long) :: ([.methodLink RX9 150 yX9_next, .instanceMethod yX9_next, .selects RX9 yX9_next yX9_next, .initialized RX9, .methodLink RX9 172 yX9_wordEnd, .instanceMethod yX9_wordEnd, .selects RX9 yX9_wordEnd yX9_wordEnd, .fieldLink RX9 141 "RecordBenchModel" "at" "I", .constantLong RX9 168 (27), .fieldLink RX9 39 "RecordBenchModel" "tape" "[I", .constantLong RX9 170 (97), .constantLong RX9 175 (-1), .code yX9_next cX9_next 1 (some .int), .fieldLink RX9 144 "RecordBenchModel" "size" "I", .fieldLink RX9 147 "RecordBenchModel" "begun" "I", .code yX9_wordEnd cX9_wordEnd 2 (some .int), .methodLink RX9 165 yX9_isLetter, .static yX9_isLetter, .code yX9_isLetter cX9_isLetter 1 (some .boolean)] ++ wsX90)
set_option maxRecDepth 20000 in
theorem gp_X9_word_X9_next_150 : GoodIn wp_X9_word (wsV RX9 150 RX9 yX9_next wp_X9_next) := goodIn_p _ [13] rfl (by decide +kernel)
set_option maxRecDepth 20000 in
theorem gp_X9_word_X9_wordEnd_172 : GoodIn wp_X9_word (wsV RX9 172 RX9 yX9_wordEnd wp_X9_wordEnd) := goodIn_p _ [16, 19] rfl (by decide +kernel)
set_option maxHeartbeats 4000000 in
set_option maxRecDepth 100000 in
theorem c_X9_word (l : Launch) (dC : Nat → ClassId) (dI : Nat → Nat → Nat) (h0 : Nat) (g : Nat → Value) (a9 : Nat) (cT : ClassId) (f : Nat → Int32) (j : Nat) (n : Nat) (fh9 : g 9 = .ref a9) (fh11 : g 11 = .int (nI j)) (fh12 : g 12 = .int (nI n)) (hj : j ≤ n) (hn : n ≤ 400) (sz : Nat) : Met l yX9_word wp_X9_word ({ frames := 2, cells := 0, slots := 0, locals := 49 }) (va_Pc [.ref h0] (Pr (dC, dI) [(cT, .int)] [] [(h0, .inr (11, mo g)), (a9, .inl (cT, 400, .inl f))] sz)) (va_Ql (fun r : Int64 => (fun (g1 : Nat → Value) => (r = twd f n (tsk f n j)) ∧ (g1 11 = .int (nI (tsk f n j))) ∧ (g1 17 = .int (nI (tsk f n j))) ∧ (∀ j : Nat, j ≠ 11 → j ≠ 17 → g1 j = g j))) (Bq (dC, dI) (fun (g1 : Nat → Value) => [(h0, .inr (11, mo g1)), (a9, .inl (cT, 400, .inl f))]) (fun (g1 : Nat → Value) => []) (va_A [(h0, .inr (11, mo g)), (a9, .inl (cT, 400, .inl f))] sz)) (va_A [(h0, .inr (11, mo g)), (a9, .inl (cT, 400, .inl f))] sz)) 0 0 (va_A [(h0, .inr (11, mo g)), (a9, .inl (cT, 400, .inl f))] sz) := by
  refine Met.ofW (cc := cX9_word) (maxL := 5) (ret := (some .long)) (by decide) rfl ?_
  intro p e s m args below meth c s₁ B hml hv
  obtain ⟨rfl, hsz, hP, hK, hD0, hN, hZ, hR⟩ := hv
  have hx := B.exec
  have hb := B.bytes
  have hr := B.returns
  have hts := atoms_spec (ws := wp_X9_word) B.pre
  have hown : s.vm.findClass RX9 = some m.cls := findClass_of_methodNamed B.named
  have hlocks := B.notSynchronized
  have iRX9 : ∀ w ∈ u_ws RX9 TX9 60, w ∈ wp_X9_word := by decide +kernel
  subst hsz
  have hD := hD0.self (sz := s.heap.size)
  generalize hAe : va_A [(h0, .inr (11, mo g)), (a9, .inl (cT, 400, .inl f))] s.heap.size = A at hD hZ hR ⊢
  have hA : ∀ q : Nat, s.heap.size ≤ q → A q := fun q h => by rw [← hAe]; exact Or.inr h
  have hS : va_S A s.heap s.heap [] := va_S.rf
  have hP : va_P (dC, dI) vwCl [(h0, .inr (11, mo g)), (a9, .inl (cT, 400, .inl f))] s.heap := hP
  have hl := lv_entry ([.ref h0]) (n := 5) (Nat.le_of_ble_eq_true rfl)
  rw [lg_entry_eq]
  generalize (lg_sl ([.ref h0]) ++ List.replicate (5 - (lg_sl ([.ref h0])).length) Slot.unset).toArray = ls at hl ⊢
  have hl : lv_has ls 5 [(0, .ref h0)] := hl
  have hq1 := tsk_ge f n j
  have hq2 := tsk_le (f := f) (n := n) hj
  have hw1 := twe_ge f n (tsk f n j)
  have hw2 := twe_le (f := f) (n := n) (j := tsk f n j) hq2
  refine lv_aload_n hx hb dX9_word_0 rfl (lv_at hl 0 rfl) ?_
  have hFc := va_free (wc := [(h0, .inr (11, mo g)), (a9, .inl (cT, 400, .inl f))]) hD hS hA [0, 1] rfl
  refine va_calli (va_runV (As := []) (rest := []) ⟨hx, hb, hml, hown, hts⟩ (c_X9_next l dC dI h0 g a9 cT f j n fh9 fh11 fh12 (by omega) (by omega) s.heap.size) (cwV 0 hts gp_X9_word_X9_next_150 rfl rfl rfl (by decide +kernel) ⟨Nat.le_of_ble_eq_true rfl, Nat.le_of_ble_eq_true rfl⟩) ⟨Pr.blind _, va_recv hK hP (ci := 11) (q0 := 0) rfl rfl, fun U hU hW => ⟨rfl, Pr.at (hP.sub (ws' := [(h0, .inr (11, mo g)), (a9, .inl (cT, 400, .inl f))]) [0, 1] rfl) (hK.sub (tys' := [(cT, .int)]) [0] rfl) (hD.sub (ws' := [(h0, .inr (11, mo g)), (a9, .inl (cT, 400, .inl f))]) [0, 1] (by decide) rfl) hN hZ RO.nil hS hFc hU hW⟩⟩ rfl rfl hl.1 rfl (lv_room (Nat.le_of_ble_eq_true rfl)) dX9_word_1 ⟨Nat.le_of_ble_eq_true rfl, Nat.le_of_ble_eq_true rfl⟩) hS (fun q _ h => hFc q h) hFc (fun r_1 u t H1 locs ht hvm hw_2 hB hz1 hk1 hS => ?_)
  obtain ⟨g1_3, rfl⟩ : ∃ z, z = u := ⟨_, rfl⟩
  obtain ⟨hP, hD, hK⟩ := Bq.join (wr := []) hB ht hvm hP hD [0, 1] [] rfl rfl (by decide) (by decide) hk1 hFc hK
  generalize H1 = H at hP hS ⊢
  have hP : va_P (dC, dI) vwCl [(h0, .inr (11, mo g1_3)), (a9, .inl (cT, 400, .inl f))] H := hP
  have hD : va_D A [(h0, .inr (11, mo g1_3)), (a9, .inl (cT, 400, .inl f))] := hD
  have hK : va_K (dC, dI) vwCl [(cT, .int)] s := hK
  try dsimp only at hw_2
  obtain ⟨k_4, k_5, k_6, k_7⟩ := hw_2
  have w_8 : g1_3 9 = .ref a9 := (k_7 9 (by decide) (by decide)).trans fh9
  have w_9 : g1_3 12 = .int (nI n) := (k_7 12 (by decide) (by decide)).trans fh12
  have un_10 : ∀ j : Nat, j ≠ 11 → j ≠ 17 → g1_3 j = g j := fun j h11 h17 => (k_7 j h11 h17)
  refine W_toi (y := tat f n (tsk f n j)) k_4 ?_
  refine lv_pop hx hb dX9_word_4 rfl ?_
  refine lv_lconst (v := 0) hx hb dX9_word_5 (by decide) ?_
  refine lv_lstore_n (lv' := [(1, .long 0), (0, .ref h0)]) hx hb dX9_word_6 rfl hl (by decide) rfl (fun ls hl => ?_)
  refine lv_aload_n hx hb dX9_word_7 rfl (lv_at hl 1 rfl) ?_
  have hFc := va_free (wc := [(h0, .inr (11, mo g1_3)), (a9, .inl (cT, 400, .inl f))]) hD hS hA [0, 1] rfl
  refine va_calli (va_runV (As := []) (rest := []) ⟨hx, hb, hml, hown, hts⟩ (c_X9_wordEnd l dC dI h0 g1_3 a9 cT f (tsk f n j) n w_8 k_5 w_9 (by omega) (by omega) H.size) (cwV 0 hts gp_X9_word_X9_wordEnd_172 rfl rfl rfl (by decide +kernel) ⟨Nat.le_of_ble_eq_true rfl, Nat.le_of_ble_eq_true rfl⟩) ⟨Pr.blind _, va_recv hK hP (ci := 11) (q0 := 0) rfl rfl, fun U hU hW => ⟨rfl, Pr.at (hP.sub (ws' := [(h0, .inr (11, mo g1_3)), (a9, .inl (cT, 400, .inl f))]) [0, 1] rfl) (hK.sub (tys' := [(cT, .int)]) [0] rfl) (hD.sub (ws' := [(h0, .inr (11, mo g1_3)), (a9, .inl (cT, 400, .inl f))]) [0, 1] (by decide) rfl) hN hZ RO.nil hS hFc hU hW⟩⟩ rfl rfl hl.1 rfl (lv_room (Nat.le_of_ble_eq_true rfl)) dX9_word_8 ⟨Nat.le_of_ble_eq_true rfl, Nat.le_of_ble_eq_true rfl⟩) hS (fun q _ h => hFc q h) hFc (fun r_11 u t H1 locs ht hvm hw_12 hB hz1 hk1 hS => ?_)
  obtain ⟨hP, hD, hK⟩ := Bq.join (wr := []) hB ht hvm hP hD [0, 1] [] rfl rfl (by decide) (by decide) hk1 hFc hK
  generalize H1 = H at hP hS ⊢
  have hP : va_P (dC, dI) vwCl [(h0, .inr (11, mo g1_3)), (a9, .inl (cT, 400, .inl f))] H := hP
  have hD : va_D A [(h0, .inr (11, mo g1_3)), (a9, .inl (cT, 400, .inl f))] := hD
  have hK : va_K (dC, dI) vwCl [(cT, .int)] s := hK
  try dsimp only at hw_12
  have k_13 := hw_12
  refine W_toi (y := nI (twe f n (tsk f n j))) k_13 ?_
  refine lv_istore_n (lv' := [(3, .int (nI (twe f n (tsk f n j)))), (1, .long 0), (0, .ref h0)]) hx hb dX9_word_11 rfl hl (by decide) rfl (fun ls hl => ?_)
  refine lv_iload_n hx hb dX9_word_12 rfl (lv_at hl 0 rfl) ?_
  refine lv_aload_n hx hb dX9_word_13 rfl (lv_at hl 2 rfl) ?_
  refine va_get (D := (dC, dI)) (ci := 11) (v := .int (nI (tsk f n j))) (C := RX9) (T := TX9) (N := 60) hx hb hts iRX9 hown hK hP 0 rfl rfl 11 (by decide) (hts (.fieldLink RX9 141 "RecordBenchModel" "at" "I") (by decide +kernel)) (fun _ h9 => h9) ((mo_get g1_3 (by decide)).trans (congrArg some k_5)) dX9_word_14 ?_
  refine lv_isub hx hb dX9_word_17 ?_
  refine W_toi (y := nI (twe f n (tsk f n j) - tsk f n j)) (pk_sub hw1) ?_
  refine lv_bipush (v := 8) hx hb dX9_word_18 (by decide) ?_
  refine lv_icmp_le (tgt := 27) hx hb dX9_word_20 (by decide) (fun c_14 => ?_) (fun c_14 => ?_)
  · refine lv_aload_n hx hb dX9_word_27 rfl (lv_at hl 2 rfl) ?_
    refine va_get (D := (dC, dI)) (ci := 11) (v := .int (nI (tsk f n j))) (C := RX9) (T := TX9) (N := 60) hx hb hts iRX9 hown hK hP 0 rfl rfl 11 (by decide) (hts (.fieldLink RX9 141 "RecordBenchModel" "at" "I") (by decide +kernel)) (fun _ h9 => h9) ((mo_get g1_3 (by decide)).trans (congrArg some k_5)) dX9_word_28 ?_
    refine lv_istore (lv' := [(4, .int (nI (tsk f n j))), (3, .int (nI (twe f n (tsk f n j)))), (1, .long 0), (0, .ref h0)]) hx hb dX9_word_31 hl (by decide) rfl (fun ls hl => ?_)
    refine W_loop (σ := Nat) (D := (dC, dI)) (A := A) [] (fun (i : Nat) => [(4, .int (nI i)), (1, .long (tpk f (tsk f n j) (i - tsk f n j))), (3, .int (nI (twe f n (tsk f n j)))), (0, .ref h0)]) (fun (i : Nat) => [(h0, .inr (11, mo g1_3)), (a9, .inl (cT, 400, .inl f))]) (fun (i : Nat) => (tsk f n j ≤ i) ∧ (i ≤ twe f n (tsk f n j))) (fun (i : Nat) => twe f n (tsk f n j) - i) ?_ (tsk f n j) ⟨(Nat.le_refl _), (twe_ge f n (tsk f n j))⟩ _ _ _ (hP.sub (ws' := [(h0, .inr (11, mo g1_3)), (a9, .inl (cT, 400, .inl f))]) [0, 1] rfl) (hD.sub (ws' := [(h0, .inr (11, mo g1_3)), (a9, .inl (cT, 400, .inl f))]) [0, 1] (by decide) rfl) hS (by show lv_has _ _ [(4, .int (nI (tsk f n j))), (1, .long (tpk f (tsk f n j) (tsk f n j - tsk f n j))), (3, .int (nI (twe f n (tsk f n j)))), (0, .ref h0)]; rw [Nat.sub_self]; exact lv_sub hl [0, 2, 1, 3] rfl)
    intro u hI H locs ls hP hD hS hl ih
    obtain ⟨i, rfl⟩ : ∃ z, z = u := ⟨_, rfl⟩
    try dsimp only at hI
    obtain ⟨hi1, hi2⟩ := hI
    have hP : va_P (dC, dI) vwCl [(h0, .inr (11, mo g1_3)), (a9, .inl (cT, 400, .inl f))] H := hP
    have hD : va_D A [(h0, .inr (11, mo g1_3)), (a9, .inl (cT, 400, .inl f))] := hD
    have hl : lv_has ls 5 [(4, .int (nI i)), (1, .long (tpk f (tsk f n j) (i - tsk f n j))), (3, .int (nI (twe f n (tsk f n j)))), (0, .ref h0)] := hl
    refine lv_iload hx hb dX9_word_33 (lv_at hl 0 rfl) ?_
    refine lv_iload_n hx hb dX9_word_35 rfl (lv_at hl 2 rfl) ?_
    refine lv_icmp_ge (tgt := 66) hx hb dX9_word_36 (by decide) (fun c_15 => ?_) (fun c_15 => ?_)
    · have he : i = twe f n (tsk f n j) := Nat.le_antisymm hi2 (nI_leN (by omega) (by omega) c_15)
      refine lv_lload_n hx hb dX9_word_66 rfl (lv_at hl 1 rfl) ?_
      have hP9 := hP.sub (ws' := [(h0, .inr (11, mo g1_3)), (a9, .inl (cT, 400, .inl f))]) [0, 1] rfl
      have hD9 := hD.sub (ws' := [(h0, .inr (11, mo g1_3)), (a9, .inl (cT, 400, .inl f))]) [0, 1] (by decide) rfl
      have hK9 := hK.sub (tys' := []) [] rfl
      exact W.lret (v := tpk f (tsk f n j) (i - tsk f n j)) hx hb hr (fun t ht hW => ⟨⟨tpk f (tsk f n j) (i - tsk f n j), g1_3, rfl, ⟨(by unfold twd; rw [if_pos (nI_leN (by decide) (by omega) c_14), he]), k_5, k_6, (fun j h11 h17 => un_10 j h11 h17)⟩, by rw [ht]; exact hP9, va_K.moved hW.alike hK9, hD9⟩, hS.F ht⟩) hS.2.2 dX9_word_67
    · have hlt : i < twe f n (tsk f n j) := nI_ltN (by omega) (by omega) c_15
      refine lv_ldc2 hx hb hown (hts (.constantLong RX9 168 (27)) (by decide +kernel)) dX9_word_39 ?_
      refine lv_lload_n hx hb dX9_word_42 rfl (lv_at hl 1 rfl) ?_
      refine lv_lmul hx hb dX9_word_43 ?_
      refine lv_aload_n hx hb dX9_word_44 rfl (lv_at hl 3 rfl) ?_
      refine va_get (D := (dC, dI)) (ci := 11) (v := .ref a9) (C := RX9) (T := TX9) (N := 60) hx hb hts iRX9 hown hK hP 0 rfl rfl 9 (by decide) (hts (.fieldLink RX9 39 "RecordBenchModel" "tape" "[I") (by decide +kernel)) (fun _ h9 => h9) ((mo_get g1_3 (by decide)).trans (congrArg some w_8)) dX9_word_45 ?_
      refine lv_iload hx hb dX9_word_48 (lv_at hl 0 rfl) ?_
      refine va_iald hx hb hK hP 1 0 rfl rfl (vp_in_nI (by omega) (by decide)) dX9_word_50 ?_
      refine W_toi (y := f i) (by rw [nI_clamp (by omega)]) ?_
      refine lv_i2l (v := (f i).toInt64) hx hb dX9_word_51 rfl ?_
      refine lv_ladd hx hb dX9_word_52 ?_
      refine lv_ldc2 hx hb hown (hts (.constantLong RX9 170 (97)) (by decide +kernel)) dX9_word_53 ?_
      refine lv_lsub hx hb dX9_word_56 ?_
      refine lv_lconst (v := 1) hx hb dX9_word_57 (by decide) ?_
      refine lv_ladd hx hb dX9_word_58 ?_
      refine W_tol (y := tpk f (tsk f n j) (i + 1 - tsk f n j)) (tpk_step hi1) ?_
      refine lv_lstore_n (lv' := [(1, .long (tpk f (tsk f n j) (i + 1 - tsk f n j))), (4, .int (nI i)), (3, .int (nI (twe f n (tsk f n j)))), (0, .ref h0)]) hx hb dX9_word_59 rfl hl (by decide) rfl (fun ls hl => ?_)
      refine lv_iinc (v := nI (i + 1)) (lv' := [(4, .int (nI (i + 1))), (1, .long (tpk f (tsk f n j) (i + 1 - tsk f n j))), (3, .int (nI (twe f n (tsk f n j)))), (0, .ref h0)]) hx hb dX9_word_60 hl (k := 1) rfl (nI_1 i) (by decide) rfl (fun ls hl => ?_)
      refine lv_goto (tgt := 33) hx hb dX9_word_63 (by decide) ?_
      exact ih (i + 1) (by show twe f n (tsk f n j) - (i + 1) < twe f n (tsk f n j) - i; omega) ⟨(by omega), (by omega)⟩ _ _ _ (hP.sub (ws' := [(h0, .inr (11, mo g1_3)), (a9, .inl (cT, 400, .inl f))]) [0, 1] rfl) (hD.sub (ws' := [(h0, .inr (11, mo g1_3)), (a9, .inl (cT, 400, .inl f))]) [0, 1] (by decide) rfl) hS (lv_sub hl [0, 1, 2, 3] rfl)
  · refine lv_ldc2 hx hb hown (hts (.constantLong RX9 175 (-1)) (by decide +kernel)) dX9_word_23 ?_
    have hP9 := hP.sub (ws' := [(h0, .inr (11, mo g1_3)), (a9, .inl (cT, 400, .inl f))]) [0, 1] rfl
    have hD9 := hD.sub (ws' := [(h0, .inr (11, mo g1_3)), (a9, .inl (cT, 400, .inl f))]) [0, 1] (by decide) rfl
    have hK9 := hK.sub (tys' := []) [] rfl
    exact W.lret (v := (-1)) hx hb hr (fun t ht hW => ⟨⟨(-1), g1_3, rfl, ⟨(by unfold twd; rw [if_neg (fun h => c_14 (nI_le h (by decide)))]), k_5, k_6, (fun j h11 h17 => un_10 j h11 h17)⟩, by rw [ht]; exact hP9, va_K.moved hW.alike hK9, hD9⟩, hS.F ht⟩) hS.2.2 dX9_word_26
def wp_X9_kindOf : List Cond := .code yX9_kindOf cX9_kindOf 3 (some .int) :: ([.fieldLink RX9 54 "RecordBenchModel" "flagWord" "J", .fieldLink RX9 57 "RecordBenchModel" "smallWord" "J", .fieldLink RX9 60 "RecordBenchModel" "intWord" "J", .fieldLink RX9 63 "RecordBenchModel" "longWord" "J", .fieldLink RX9 66 "RecordBenchModel" "textWord" "J", .fieldLink RX9 69 "RecordBenchModel" "recWord" "J"] ++ wsX90)
set_option maxHeartbeats 4000000 in
set_option maxRecDepth 100000 in
theorem c_X9_kindOf (l : Launch) (dC : Nat → ClassId) (dI : Nat → Nat → Nat) (h0 : Nat) (g : Nat → Value) (c1 : Int64) (c2 : Int64) (c3 : Int64) (c4 : Int64) (c5 : Int64) (c6 : Int64) (fh20 : g 20 = .long c1) (fh21 : g 21 = .long c2) (fh22 : g 22 = .long c3) (fh23 : g 23 = .long c4) (fh24 : g 24 = .long c5) (fh25 : g 25 = .long c6) (p0 : Int64) (sz : Nat) : Met l yX9_kindOf wp_X9_kindOf ({ frames := 0, cells := 0, slots := 0, locals := 0 }) (va_Pc [.ref h0, .long p0] (Pr (dC, dI) [] [] [(h0, .inr (11, mo g))] sz)) (va_Qi (fun r : Int32 => (fun _ : Unit => r = kOf p0 c1 c2 c3 c4 c5 c6)) (Bq (dC, dI) (fun _ : Unit => [(h0, .inr (11, mo g))]) (fun _ : Unit => []) (va_A [(h0, .inr (11, mo g))] sz)) (va_A [(h0, .inr (11, mo g))] sz)) 0 0 (va_A [(h0, .inr (11, mo g))] sz) := by
  refine Met.ofW (cc := cX9_kindOf) (maxL := 3) (ret := (some .int)) (by decide) rfl ?_
  intro p e s m args below meth c s₁ B hml hv
  obtain ⟨rfl, hsz, hP, hK, hD0, hN, hZ, hR⟩ := hv
  have hx := B.exec
  have hb := B.bytes
  have hr := B.returns
  have hts := atoms_spec (ws := wp_X9_kindOf) B.pre
  have hown : s.vm.findClass RX9 = some m.cls := findClass_of_methodNamed B.named
  have hlocks := B.notSynchronized
  have iRX9 : ∀ w ∈ u_ws RX9 TX9 60, w ∈ wp_X9_kindOf := by decide +kernel
  subst hsz
  have hD := hD0.self (sz := s.heap.size)
  generalize hAe : va_A [(h0, .inr (11, mo g))] s.heap.size = A at hD hZ hR ⊢
  have hA : ∀ q : Nat, s.heap.size ≤ q → A q := fun q h => by rw [← hAe]; exact Or.inr h
  have hS : va_S A s.heap s.heap [] := va_S.rf
  have hP : va_P (dC, dI) vwCl [(h0, .inr (11, mo g))] s.heap := hP
  have hl := lv_entry ([.ref h0, .long p0]) (n := 3) (Nat.le_of_ble_eq_true rfl)
  rw [lg_entry_eq]
  generalize (lg_sl ([.ref h0, .long p0]) ++ List.replicate (3 - (lg_sl ([.ref h0, .long p0])).length) Slot.unset).toArray = ls at hl ⊢
  have hl : lv_has ls 3 [(0, .ref h0), (1, .long p0)] := hl
  refine lv_lload_n hx hb dX9_kindOf_0 rfl (lv_at hl 1 rfl) ?_
  refine lv_aload_n hx hb dX9_kindOf_1 rfl (lv_at hl 0 rfl) ?_
  refine va_get (D := (dC, dI)) (ci := 11) (v := .long c1) (C := RX9) (T := TX9) (N := 60) hx hb hts iRX9 hown hK hP 0 rfl rfl 20 (by decide) (hts (.fieldLink RX9 54 "RecordBenchModel" "flagWord" "J") (by decide +kernel)) (fun _ h9 => h9) ((mo_get g (by decide)).trans (congrArg some fh20)) dX9_kindOf_2 ?_
  refine W.lcmp hx hb dX9_kindOf_5 ?_
  refine lv_if_ne (tgt := 13) hx hb dX9_kindOf_6 (by decide) (fun c_1 => ?_) (fun c_1 => ?_)
  · refine lv_lload_n hx hb dX9_kindOf_13 rfl (lv_at hl 1 rfl) ?_
    refine lv_aload_n hx hb dX9_kindOf_14 rfl (lv_at hl 0 rfl) ?_
    refine va_get (D := (dC, dI)) (ci := 11) (v := .long c2) (C := RX9) (T := TX9) (N := 60) hx hb hts iRX9 hown hK hP 0 rfl rfl 21 (by decide) (hts (.fieldLink RX9 57 "RecordBenchModel" "smallWord" "J") (by decide +kernel)) (fun _ h9 => h9) ((mo_get g (by decide)).trans (congrArg some fh21)) dX9_kindOf_15 ?_
    refine W.lcmp hx hb dX9_kindOf_18 ?_
    refine lv_if_ne (tgt := 26) hx hb dX9_kindOf_19 (by decide) (fun c_2 => ?_) (fun c_2 => ?_)
    · refine lv_lload_n hx hb dX9_kindOf_26 rfl (lv_at hl 1 rfl) ?_
      refine lv_aload_n hx hb dX9_kindOf_27 rfl (lv_at hl 0 rfl) ?_
      refine va_get (D := (dC, dI)) (ci := 11) (v := .long c3) (C := RX9) (T := TX9) (N := 60) hx hb hts iRX9 hown hK hP 0 rfl rfl 22 (by decide) (hts (.fieldLink RX9 60 "RecordBenchModel" "intWord" "J") (by decide +kernel)) (fun _ h9 => h9) ((mo_get g (by decide)).trans (congrArg some fh22)) dX9_kindOf_28 ?_
      refine W.lcmp hx hb dX9_kindOf_31 ?_
      refine lv_if_ne (tgt := 39) hx hb dX9_kindOf_32 (by decide) (fun c_3 => ?_) (fun c_3 => ?_)
      · refine lv_lload_n hx hb dX9_kindOf_39 rfl (lv_at hl 1 rfl) ?_
        refine lv_aload_n hx hb dX9_kindOf_40 rfl (lv_at hl 0 rfl) ?_
        refine va_get (D := (dC, dI)) (ci := 11) (v := .long c4) (C := RX9) (T := TX9) (N := 60) hx hb hts iRX9 hown hK hP 0 rfl rfl 23 (by decide) (hts (.fieldLink RX9 63 "RecordBenchModel" "longWord" "J") (by decide +kernel)) (fun _ h9 => h9) ((mo_get g (by decide)).trans (congrArg some fh23)) dX9_kindOf_41 ?_
        refine W.lcmp hx hb dX9_kindOf_44 ?_
        refine lv_if_ne (tgt := 52) hx hb dX9_kindOf_45 (by decide) (fun c_4 => ?_) (fun c_4 => ?_)
        · refine lv_lload_n hx hb dX9_kindOf_52 rfl (lv_at hl 1 rfl) ?_
          refine lv_aload_n hx hb dX9_kindOf_53 rfl (lv_at hl 0 rfl) ?_
          refine va_get (D := (dC, dI)) (ci := 11) (v := .long c5) (C := RX9) (T := TX9) (N := 60) hx hb hts iRX9 hown hK hP 0 rfl rfl 24 (by decide) (hts (.fieldLink RX9 66 "RecordBenchModel" "textWord" "J") (by decide +kernel)) (fun _ h9 => h9) ((mo_get g (by decide)).trans (congrArg some fh24)) dX9_kindOf_54 ?_
          refine W.lcmp hx hb dX9_kindOf_57 ?_
          refine lv_if_ne (tgt := 65) hx hb dX9_kindOf_58 (by decide) (fun c_5 => ?_) (fun c_5 => ?_)
          · refine lv_lload_n hx hb dX9_kindOf_65 rfl (lv_at hl 1 rfl) ?_
            refine lv_aload_n hx hb dX9_kindOf_66 rfl (lv_at hl 0 rfl) ?_
            refine va_get (D := (dC, dI)) (ci := 11) (v := .long c6) (C := RX9) (T := TX9) (N := 60) hx hb hts iRX9 hown hK hP 0 rfl rfl 25 (by decide) (hts (.fieldLink RX9 69 "RecordBenchModel" "recWord" "J") (by decide +kernel)) (fun _ h9 => h9) ((mo_get g (by decide)).trans (congrArg some fh25)) dX9_kindOf_67 ?_
            refine W.lcmp hx hb dX9_kindOf_70 ?_
            refine lv_if_ne (tgt := 79) hx hb dX9_kindOf_71 (by decide) (fun c_6 => ?_) (fun c_6 => ?_)
            · refine lv_iconst (v := (-1)) hx hb dX9_kindOf_79 (by decide) ?_
              have hP9 := hP.sub (ws' := [(h0, .inr (11, mo g))]) [0] rfl
              have hD9 := hD.sub (ws' := [(h0, .inr (11, mo g))]) [0] (by decide) rfl
              have hK9 := hK.sub (tys' := []) [] rfl
              exact W.iret (v := (-1)) hx hb hr (fun t ht hW => ⟨⟨(-1), (), rfl, (by unfold kOf; rw [if_neg (fun h => c_1 ((lg_cmp_eq _ _).mpr h)), if_neg (fun h => c_2 ((lg_cmp_eq _ _).mpr h)), if_neg (fun h => c_3 ((lg_cmp_eq _ _).mpr h)), if_neg (fun h => c_4 ((lg_cmp_eq _ _).mpr h)), if_neg (fun h => c_5 ((lg_cmp_eq _ _).mpr h)), if_neg (fun h => c_6 ((lg_cmp_eq _ _).mpr h))]), by rw [ht]; exact hP9, va_K.moved hW.alike hK9, hD9⟩, hS.F ht⟩) hS.2.2 dX9_kindOf_80
            · refine lv_bipush (v := 6) hx hb dX9_kindOf_74 (by decide) ?_
              refine lv_goto (tgt := 80) hx hb dX9_kindOf_76 (by decide) ?_
              have hP9 := hP.sub (ws' := [(h0, .inr (11, mo g))]) [0] rfl
              have hD9 := hD.sub (ws' := [(h0, .inr (11, mo g))]) [0] (by decide) rfl
              have hK9 := hK.sub (tys' := []) [] rfl
              exact W.iret (v := 6) hx hb hr (fun t ht hW => ⟨⟨6, (), rfl, (by unfold kOf; rw [if_neg (fun h => c_1 ((lg_cmp_eq _ _).mpr h)), if_neg (fun h => c_2 ((lg_cmp_eq _ _).mpr h)), if_neg (fun h => c_3 ((lg_cmp_eq _ _).mpr h)), if_neg (fun h => c_4 ((lg_cmp_eq _ _).mpr h)), if_neg (fun h => c_5 ((lg_cmp_eq _ _).mpr h)), if_pos ((lg_cmp_eq _ _).mp c_6)]), by rw [ht]; exact hP9, va_K.moved hW.alike hK9, hD9⟩, hS.F ht⟩) hS.2.2 dX9_kindOf_80
          · refine lv_iconst (v := 5) hx hb dX9_kindOf_61 (by decide) ?_
            refine lv_goto (tgt := 80) hx hb dX9_kindOf_62 (by decide) ?_
            have hP9 := hP.sub (ws' := [(h0, .inr (11, mo g))]) [0] rfl
            have hD9 := hD.sub (ws' := [(h0, .inr (11, mo g))]) [0] (by decide) rfl
            have hK9 := hK.sub (tys' := []) [] rfl
            exact W.iret (v := 5) hx hb hr (fun t ht hW => ⟨⟨5, (), rfl, (by unfold kOf; rw [if_neg (fun h => c_1 ((lg_cmp_eq _ _).mpr h)), if_neg (fun h => c_2 ((lg_cmp_eq _ _).mpr h)), if_neg (fun h => c_3 ((lg_cmp_eq _ _).mpr h)), if_neg (fun h => c_4 ((lg_cmp_eq _ _).mpr h)), if_pos ((lg_cmp_eq _ _).mp c_5)]), by rw [ht]; exact hP9, va_K.moved hW.alike hK9, hD9⟩, hS.F ht⟩) hS.2.2 dX9_kindOf_80
        · refine lv_iconst (v := 4) hx hb dX9_kindOf_48 (by decide) ?_
          refine lv_goto (tgt := 80) hx hb dX9_kindOf_49 (by decide) ?_
          have hP9 := hP.sub (ws' := [(h0, .inr (11, mo g))]) [0] rfl
          have hD9 := hD.sub (ws' := [(h0, .inr (11, mo g))]) [0] (by decide) rfl
          have hK9 := hK.sub (tys' := []) [] rfl
          exact W.iret (v := 4) hx hb hr (fun t ht hW => ⟨⟨4, (), rfl, (by unfold kOf; rw [if_neg (fun h => c_1 ((lg_cmp_eq _ _).mpr h)), if_neg (fun h => c_2 ((lg_cmp_eq _ _).mpr h)), if_neg (fun h => c_3 ((lg_cmp_eq _ _).mpr h)), if_pos ((lg_cmp_eq _ _).mp c_4)]), by rw [ht]; exact hP9, va_K.moved hW.alike hK9, hD9⟩, hS.F ht⟩) hS.2.2 dX9_kindOf_80
      · refine lv_iconst (v := 3) hx hb dX9_kindOf_35 (by decide) ?_
        refine lv_goto (tgt := 80) hx hb dX9_kindOf_36 (by decide) ?_
        have hP9 := hP.sub (ws' := [(h0, .inr (11, mo g))]) [0] rfl
        have hD9 := hD.sub (ws' := [(h0, .inr (11, mo g))]) [0] (by decide) rfl
        have hK9 := hK.sub (tys' := []) [] rfl
        exact W.iret (v := 3) hx hb hr (fun t ht hW => ⟨⟨3, (), rfl, (by unfold kOf; rw [if_neg (fun h => c_1 ((lg_cmp_eq _ _).mpr h)), if_neg (fun h => c_2 ((lg_cmp_eq _ _).mpr h)), if_pos ((lg_cmp_eq _ _).mp c_3)]), by rw [ht]; exact hP9, va_K.moved hW.alike hK9, hD9⟩, hS.F ht⟩) hS.2.2 dX9_kindOf_80
    · refine lv_iconst (v := 2) hx hb dX9_kindOf_22 (by decide) ?_
      refine lv_goto (tgt := 80) hx hb dX9_kindOf_23 (by decide) ?_
      have hP9 := hP.sub (ws' := [(h0, .inr (11, mo g))]) [0] rfl
      have hD9 := hD.sub (ws' := [(h0, .inr (11, mo g))]) [0] (by decide) rfl
      have hK9 := hK.sub (tys' := []) [] rfl
      exact W.iret (v := 2) hx hb hr (fun t ht hW => ⟨⟨2, (), rfl, (by unfold kOf; rw [if_neg (fun h => c_1 ((lg_cmp_eq _ _).mpr h)), if_pos ((lg_cmp_eq _ _).mp c_2)]), by rw [ht]; exact hP9, va_K.moved hW.alike hK9, hD9⟩, hS.F ht⟩) hS.2.2 dX9_kindOf_80
  · refine lv_iconst (v := 1) hx hb dX9_kindOf_9 (by decide) ?_
    refine lv_goto (tgt := 80) hx hb dX9_kindOf_10 (by decide) ?_
    have hP9 := hP.sub (ws' := [(h0, .inr (11, mo g))]) [0] rfl
    have hD9 := hD.sub (ws' := [(h0, .inr (11, mo g))]) [0] (by decide) rfl
    have hK9 := hK.sub (tys' := []) [] rfl
    exact W.iret (v := 1) hx hb hr (fun t ht hW => ⟨⟨1, (), rfl, (by unfold kOf; rw [if_pos ((lg_cmp_eq _ _).mp c_1)]), by rw [ht]; exact hP9, va_K.moved hW.alike hK9, hD9⟩, hS.F ht⟩) hS.2.2 dX9_kindOf_80
def wp_X9_isOf : List Cond := .code yX9_isOf cX9_isOf 3 (some .boolean) :: ([.constantLong RX9 219 (-2147483648), .constantLong RX9 221 (2147483647), .constantLong RX9 215 (-128), .constantLong RX9 217 (127)])
set_option maxHeartbeats 4000000 in
set_option maxRecDepth 100000 in
theorem c_X9_isOf (l : Launch) (dC : Nat → ClassId) (dI : Nat → Nat → Nat) (p0 : Int64) (p1 : Int32) (sz : Nat) : Met l yX9_isOf wp_X9_isOf ({ frames := 0, cells := 0, slots := 0, locals := 0 }) (va_Pc [.long p0, .int p1] (Pr (dC, dI) [] [] [] sz)) (va_Qi (fun r : Int32 => (fun _ : Unit => (vOf p0 p1 ∧ r = 1) ∨ (¬ vOf p0 p1 ∧ r = 0))) (Bq (dC, dI) (fun _ : Unit => []) (fun _ : Unit => []) (va_A [] sz)) (va_A [] sz)) 0 0 (va_A [] sz) := by
  refine Met.ofW (cc := cX9_isOf) (maxL := 3) (ret := (some .boolean)) (by decide) rfl ?_
  intro p e s m args below meth c s₁ B hml hv
  obtain ⟨rfl, hsz, hP, hK, hD0, hN, hZ, hR⟩ := hv
  have hx := B.exec
  have hb := B.bytes
  have hr := B.returns
  have hts := atoms_spec (ws := wp_X9_isOf) B.pre
  have hown : s.vm.findClass RX9 = some m.cls := findClass_of_methodNamed B.named
  have hlocks := B.notSynchronized
  subst hsz
  have hD := hD0.self (sz := s.heap.size)
  generalize hAe : va_A [] s.heap.size = A at hD hZ hR ⊢
  have hA : ∀ q : Nat, s.heap.size ≤ q → A q := fun q h => by rw [← hAe]; exact Or.inr h
  have hS : va_S A s.heap s.heap [] := va_S.rf
  have hP : va_P (dC, dI) vwCl [] s.heap := hP
  have hl := lv_entry ([.long p0, .int p1]) (n := 3) (Nat.le_of_ble_eq_true rfl)
  rw [lg_entry_eq]
  generalize (lg_sl ([.long p0, .int p1]) ++ List.replicate (3 - (lg_sl ([.long p0, .int p1])).length) Slot.unset).toArray = ls at hl ⊢
  have hl : lv_has ls 3 [(0, .long p0), (2, .int p1)] := hl
  refine lv_iload_n hx hb dX9_isOf_0 rfl (lv_at hl 1 rfl) ?_
  refine lv_iconst (v := 1) hx hb dX9_isOf_1 (by decide) ?_
  refine lv_icmp_ne (tgt := 25) hx hb dX9_isOf_2 (by decide) (fun c_1 => ?_) (fun c_1 => ?_)
  · refine lv_iload_n hx hb dX9_isOf_25 rfl (lv_at hl 1 rfl) ?_
    refine lv_iconst (v := 2) hx hb dX9_isOf_26 (by decide) ?_
    refine lv_icmp_ne (tgt := 54) hx hb dX9_isOf_27 (by decide) (fun c_2 => ?_) (fun c_2 => ?_)
    · refine lv_iload_n hx hb dX9_isOf_54 rfl (lv_at hl 1 rfl) ?_
      refine lv_iconst (v := 4) hx hb dX9_isOf_55 (by decide) ?_
      refine lv_icmp_eq (tgt := 75) hx hb dX9_isOf_56 (by decide) (fun c_3 => ?_) (fun c_3 => ?_)
      · refine lv_iconst (v := 1) hx hb dX9_isOf_75 (by decide) ?_
        refine lv_goto (tgt := 80) hx hb dX9_isOf_76 (by decide) ?_
        have hP9 := hP.sub (ws' := []) [] rfl
        have hD9 := hD.sub (ws' := []) [] (by decide) rfl
        have hK9 := hK.sub (tys' := []) [] rfl
        exact W.zret (v := 1) hx hb hr rfl (fun t ht hW => ⟨⟨1, (), rfl, Or.inl ⟨by have q0 := c_1; have q1 := c_2; have q2 := c_3; unfold vOf; simp [q0, q1, q2], rfl⟩, by rw [ht]; exact hP9, va_K.moved hW.alike hK9, hD9⟩, hS.F ht⟩) hS.2.2 dX9_isOf_80
      · refine lv_lload_n hx hb dX9_isOf_59 rfl (lv_at hl 0 rfl) ?_
        refine lv_ldc2 hx hb hown (hts (.constantLong RX9 219 (-2147483648)) (by decide +kernel)) dX9_isOf_60 ?_
        refine W.lcmp hx hb dX9_isOf_63 ?_
        refine lv_if_lt (tgt := 79) hx hb dX9_isOf_64 (by decide) (fun c_4 => ?_) (fun c_4 => ?_)
        · refine lv_iconst (v := 0) hx hb dX9_isOf_79 (by decide) ?_
          have hP9 := hP.sub (ws' := []) [] rfl
          have hD9 := hD.sub (ws' := []) [] (by decide) rfl
          have hK9 := hK.sub (tys' := []) [] rfl
          exact W.zret (v := 0) hx hb hr rfl (fun t ht hW => ⟨⟨0, (), rfl, Or.inr ⟨by have q0 := c_1; have q1 := c_2; have q2 := c_3; have q3 := (lg_cmp_lt _ _).mp c_4; unfold vOf; simp [q0, q1, q2, q3], rfl⟩, by rw [ht]; exact hP9, va_K.moved hW.alike hK9, hD9⟩, hS.F ht⟩) hS.2.2 dX9_isOf_80
        · refine lv_lload_n hx hb dX9_isOf_67 rfl (lv_at hl 0 rfl) ?_
          refine lv_ldc2 hx hb hown (hts (.constantLong RX9 221 (2147483647)) (by decide +kernel)) dX9_isOf_68 ?_
          refine W.lcmp hx hb dX9_isOf_71 ?_
          refine lv_if_gt (tgt := 79) hx hb dX9_isOf_72 (by decide) (fun c_5 => ?_) (fun c_5 => ?_)
          · refine lv_iconst (v := 0) hx hb dX9_isOf_79 (by decide) ?_
            have hP9 := hP.sub (ws' := []) [] rfl
            have hD9 := hD.sub (ws' := []) [] (by decide) rfl
            have hK9 := hK.sub (tys' := []) [] rfl
            exact W.zret (v := 0) hx hb hr rfl (fun t ht hW => ⟨⟨0, (), rfl, Or.inr ⟨by have q0 := c_1; have q1 := c_2; have q2 := c_3; have q3 : ¬ _ := (fun h => c_4 ((lg_cmp_lt _ _).mpr h)); have q4 := (lg_cmp_gt _ _).mp c_5; unfold vOf; simp [q0, q1, q2, q3, q4], rfl⟩, by rw [ht]; exact hP9, va_K.moved hW.alike hK9, hD9⟩, hS.F ht⟩) hS.2.2 dX9_isOf_80
          · refine lv_iconst (v := 1) hx hb dX9_isOf_75 (by decide) ?_
            refine lv_goto (tgt := 80) hx hb dX9_isOf_76 (by decide) ?_
            have hP9 := hP.sub (ws' := []) [] rfl
            have hD9 := hD.sub (ws' := []) [] (by decide) rfl
            have hK9 := hK.sub (tys' := []) [] rfl
            exact W.zret (v := 1) hx hb hr rfl (fun t ht hW => ⟨⟨1, (), rfl, Or.inl ⟨by have q0 := c_1; have q1 := c_2; have q2 := c_3; have q3 : ¬ _ := (fun h => c_4 ((lg_cmp_lt _ _).mpr h)); have q4 : ¬ _ := (fun h => c_5 ((lg_cmp_gt _ _).mpr h)); unfold vOf; simp [q0, q1, q2, q3, q4], rfl⟩, by rw [ht]; exact hP9, va_K.moved hW.alike hK9, hD9⟩, hS.F ht⟩) hS.2.2 dX9_isOf_80
    · refine lv_lload_n hx hb dX9_isOf_30 rfl (lv_at hl 0 rfl) ?_
      refine lv_ldc2 hx hb hown (hts (.constantLong RX9 215 (-128)) (by decide +kernel)) dX9_isOf_31 ?_
      refine W.lcmp hx hb dX9_isOf_34 ?_
      refine lv_if_lt (tgt := 50) hx hb dX9_isOf_35 (by decide) (fun c_6 => ?_) (fun c_6 => ?_)
      · refine lv_iconst (v := 0) hx hb dX9_isOf_50 (by decide) ?_
        refine lv_goto (tgt := 80) hx hb dX9_isOf_51 (by decide) ?_
        have hP9 := hP.sub (ws' := []) [] rfl
        have hD9 := hD.sub (ws' := []) [] (by decide) rfl
        have hK9 := hK.sub (tys' := []) [] rfl
        exact W.zret (v := 0) hx hb hr rfl (fun t ht hW => ⟨⟨0, (), rfl, Or.inr ⟨by have q0 := c_1; have q1 := c_2; have q2 := (lg_cmp_lt _ _).mp c_6; unfold vOf; simp [q0, q1, q2], rfl⟩, by rw [ht]; exact hP9, va_K.moved hW.alike hK9, hD9⟩, hS.F ht⟩) hS.2.2 dX9_isOf_80
      · refine lv_lload_n hx hb dX9_isOf_38 rfl (lv_at hl 0 rfl) ?_
        refine lv_ldc2 hx hb hown (hts (.constantLong RX9 217 (127)) (by decide +kernel)) dX9_isOf_39 ?_
        refine W.lcmp hx hb dX9_isOf_42 ?_
        refine lv_if_gt (tgt := 50) hx hb dX9_isOf_43 (by decide) (fun c_7 => ?_) (fun c_7 => ?_)
        · refine lv_iconst (v := 0) hx hb dX9_isOf_50 (by decide) ?_
          refine lv_goto (tgt := 80) hx hb dX9_isOf_51 (by decide) ?_
          have hP9 := hP.sub (ws' := []) [] rfl
          have hD9 := hD.sub (ws' := []) [] (by decide) rfl
          have hK9 := hK.sub (tys' := []) [] rfl
          exact W.zret (v := 0) hx hb hr rfl (fun t ht hW => ⟨⟨0, (), rfl, Or.inr ⟨by have q0 := c_1; have q1 := c_2; have q2 : ¬ _ := (fun h => c_6 ((lg_cmp_lt _ _).mpr h)); have q3 := (lg_cmp_gt _ _).mp c_7; unfold vOf; simp [q0, q1, q2, q3], rfl⟩, by rw [ht]; exact hP9, va_K.moved hW.alike hK9, hD9⟩, hS.F ht⟩) hS.2.2 dX9_isOf_80
        · refine lv_iconst (v := 1) hx hb dX9_isOf_46 (by decide) ?_
          refine lv_goto (tgt := 80) hx hb dX9_isOf_47 (by decide) ?_
          have hP9 := hP.sub (ws' := []) [] rfl
          have hD9 := hD.sub (ws' := []) [] (by decide) rfl
          have hK9 := hK.sub (tys' := []) [] rfl
          exact W.zret (v := 1) hx hb hr rfl (fun t ht hW => ⟨⟨1, (), rfl, Or.inl ⟨by have q0 := c_1; have q1 := c_2; have q2 : ¬ _ := (fun h => c_6 ((lg_cmp_lt _ _).mpr h)); have q3 : ¬ _ := (fun h => c_7 ((lg_cmp_gt _ _).mpr h)); unfold vOf; simp [q0, q1, q2, q3], rfl⟩, by rw [ht]; exact hP9, va_K.moved hW.alike hK9, hD9⟩, hS.F ht⟩) hS.2.2 dX9_isOf_80
  · refine lv_lload_n hx hb dX9_isOf_5 rfl (lv_at hl 0 rfl) ?_
    refine lv_lconst (v := 0) hx hb dX9_isOf_6 (by decide) ?_
    refine W.lcmp hx hb dX9_isOf_7 ?_
    refine lv_if_eq (tgt := 17) hx hb dX9_isOf_8 (by decide) (fun c_8 => ?_) (fun c_8 => ?_)
    · refine lv_iconst (v := 1) hx hb dX9_isOf_17 (by decide) ?_
      refine lv_goto (tgt := 80) hx hb dX9_isOf_18 (by decide) ?_
      have hP9 := hP.sub (ws' := []) [] rfl
      have hD9 := hD.sub (ws' := []) [] (by decide) rfl
      have hK9 := hK.sub (tys' := []) [] rfl
      exact W.zret (v := 1) hx hb hr rfl (fun t ht hW => ⟨⟨1, (), rfl, Or.inl ⟨by have q0 := c_1; have q1 := (lg_cmp_eq _ _).mp c_8; unfold vOf; simp [q0, q1], rfl⟩, by rw [ht]; exact hP9, va_K.moved hW.alike hK9, hD9⟩, hS.F ht⟩) hS.2.2 dX9_isOf_80
    · refine lv_lload_n hx hb dX9_isOf_11 rfl (lv_at hl 0 rfl) ?_
      refine lv_lconst (v := 1) hx hb dX9_isOf_12 (by decide) ?_
      refine W.lcmp hx hb dX9_isOf_13 ?_
      refine lv_if_ne (tgt := 21) hx hb dX9_isOf_14 (by decide) (fun c_9 => ?_) (fun c_9 => ?_)
      · refine lv_iconst (v := 0) hx hb dX9_isOf_21 (by decide) ?_
        refine lv_goto (tgt := 80) hx hb dX9_isOf_22 (by decide) ?_
        have hP9 := hP.sub (ws' := []) [] rfl
        have hD9 := hD.sub (ws' := []) [] (by decide) rfl
        have hK9 := hK.sub (tys' := []) [] rfl
        exact W.zret (v := 0) hx hb hr rfl (fun t ht hW => ⟨⟨0, (), rfl, Or.inr ⟨by have q0 := c_1; have q1 : ¬ _ := (fun h => c_8 ((lg_cmp_eq _ _).mpr h)); have q2 : ¬ _ := (fun h => c_9 ((lg_cmp_eq _ _).mpr h)); unfold vOf; simp [q0, q1, q2], rfl⟩, by rw [ht]; exact hP9, va_K.moved hW.alike hK9, hD9⟩, hS.F ht⟩) hS.2.2 dX9_isOf_80
      · refine lv_iconst (v := 1) hx hb dX9_isOf_17 (by decide) ?_
        refine lv_goto (tgt := 80) hx hb dX9_isOf_18 (by decide) ?_
        have hP9 := hP.sub (ws' := []) [] rfl
        have hD9 := hD.sub (ws' := []) [] (by decide) rfl
        have hK9 := hK.sub (tys' := []) [] rfl
        exact W.zret (v := 1) hx hb hr rfl (fun t ht hW => ⟨⟨1, (), rfl, Or.inl ⟨by have q0 := c_1; have q1 : ¬ _ := (fun h => c_8 ((lg_cmp_eq _ _).mpr h)); have q2 := (lg_cmp_eq _ _).mp c_9; unfold vOf; simp [q0, q1, q2], rfl⟩, by rw [ht]; exact hP9, va_K.moved hW.alike hK9, hD9⟩, hS.F ht⟩) hS.2.2 dX9_isOf_80
