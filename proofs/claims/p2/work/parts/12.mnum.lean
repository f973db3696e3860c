theorem dX9_number_0 : decode cX9_number 0 = .ok (.aload_n 0, 1) := by decide +kernel
theorem dX9_number_1 : decode cX9_number 1 = .ok (.invokevirtual 150, 3) := by decide +kernel
theorem dX9_number_10 : decode cX9_number 10 = .ok (.aload_n 0, 1) := by decide +kernel
theorem dX9_number_100 : decode cX9_number 100 = .ok (.bipush 48, 2) := by decide +kernel
theorem dX9_number_102 : decode cX9_number 102 = .ok (.isub, 1) := by decide +kernel
theorem dX9_number_103 : decode cX9_number 103 = .ok (.istore 4, 2) := by decide +kernel
theorem dX9_number_105 : decode cX9_number 105 = .ok (.aload_n 0, 1) := by decide +kernel
theorem dX9_number_106 : decode cX9_number 106 = .ok (.dup, 1) := by decide +kernel
theorem dX9_number_107 : decode cX9_number 107 = .ok (.getfield 141, 3) := by decide +kernel
theorem dX9_number_11 : decode cX9_number 11 = .ok (.getfield 141, 3) := by decide +kernel
theorem dX9_number_110 : decode cX9_number 110 = .ok (.iconst 1, 1) := by decide +kernel
theorem dX9_number_111 : decode cX9_number 111 = .ok (.iadd, 1) := by decide +kernel
theorem dX9_number_112 : decode cX9_number 112 = .ok (.putfield 141, 3) := by decide +kernel
theorem dX9_number_115 : decode cX9_number 115 = .ok (.goto (-80), 3) := by decide +kernel
theorem dX9_number_118 : decode cX9_number 118 = .ok (.aload_n 0, 1) := by decide +kernel
theorem dX9_number_119 : decode cX9_number 119 = .ok (.aload_n 0, 1) := by decide +kernel
theorem dX9_number_120 : decode cX9_number 120 = .ok (.getfield 141, 3) := by decide +kernel
theorem dX9_number_123 : decode cX9_number 123 = .ok (.putfield 162, 3) := by decide +kernel
theorem dX9_number_126 : decode cX9_number 126 = .ok (.iload 4, 2) := by decide +kernel
theorem dX9_number_128 : decode cX9_number 128 = .ok (.iload_n 2, 1) := by decide +kernel
theorem dX9_number_129 : decode cX9_number 129 = .ok (.if_icmp .lt 9, 3) := by decide +kernel
theorem dX9_number_132 : decode cX9_number 132 = .ok (.iload 4, 2) := by decide +kernel
theorem dX9_number_134 : decode cX9_number 134 = .ok (.iload_n 3, 1) := by decide +kernel
theorem dX9_number_135 : decode cX9_number 135 = .ok (.if_icmp .le 12, 3) := by decide +kernel
theorem dX9_number_138 : decode cX9_number 138 = .ok (.aload_n 0, 1) := by decide +kernel
theorem dX9_number_139 : decode cX9_number 139 = .ok (.iconst 2, 1) := by decide +kernel
theorem dX9_number_14 : decode cX9_number 14 = .ok (.aload_n 0, 1) := by decide +kernel
theorem dX9_number_140 : decode cX9_number 140 = .ok (.aload_n 0, 1) := by decide +kernel
theorem dX9_number_141 : decode cX9_number 141 = .ok (.getfield 147, 3) := by decide +kernel
theorem dX9_number_144 : decode cX9_number 144 = .ok (.invokevirtual 154, 3) := by decide +kernel
theorem dX9_number_147 : decode cX9_number 147 = .ok (.iload 4, 2) := by decide +kernel
theorem dX9_number_149 : decode cX9_number 149 = .ok (.ireturn, 1) := by decide +kernel
theorem dX9_number_15 : decode cX9_number 15 = .ok (.getfield 162, 3) := by decide +kernel
theorem dX9_number_18 : decode cX9_number 18 = .ok (.if_icmp .ne 14, 3) := by decide +kernel
theorem dX9_number_21 : decode cX9_number 21 = .ok (.aload_n 0, 1) := by decide +kernel
theorem dX9_number_22 : decode cX9_number 22 = .ok (.iconst 1, 1) := by decide +kernel
theorem dX9_number_23 : decode cX9_number 23 = .ok (.aload_n 0, 1) := by decide +kernel
theorem dX9_number_24 : decode cX9_number 24 = .ok (.getfield 141, 3) := by decide +kernel
theorem dX9_number_27 : decode cX9_number 27 = .ok (.invokevirtual 154, 3) := by decide +kernel
theorem dX9_number_30 : decode cX9_number 30 = .ok (.iconst 0, 1) := by decide +kernel
theorem dX9_number_31 : decode cX9_number 31 = .ok (.ireturn, 1) := by decide +kernel
theorem dX9_number_32 : decode cX9_number 32 = .ok (.iconst 0, 1) := by decide +kernel
theorem dX9_number_33 : decode cX9_number 33 = .ok (.istore 4, 2) := by decide +kernel
theorem dX9_number_35 : decode cX9_number 35 = .ok (.aload_n 0, 1) := by decide +kernel
theorem dX9_number_36 : decode cX9_number 36 = .ok (.getfield 141, 3) := by decide +kernel
theorem dX9_number_39 : decode cX9_number 39 = .ok (.aload_n 0, 1) := by decide +kernel
theorem dX9_number_4 : decode cX9_number 4 = .ok (.invokestatic 158, 3) := by decide +kernel
theorem dX9_number_40 : decode cX9_number 40 = .ok (.getfield 144, 3) := by decide +kernel
theorem dX9_number_43 : decode cX9_number 43 = .ok (.if_icmp .ge 75, 3) := by decide +kernel
theorem dX9_number_46 : decode cX9_number 46 = .ok (.aload_n 0, 1) := by decide +kernel
theorem dX9_number_47 : decode cX9_number 47 = .ok (.getfield 39, 3) := by decide +kernel
theorem dX9_number_50 : decode cX9_number 50 = .ok (.aload_n 0, 1) := by decide +kernel
theorem dX9_number_51 : decode cX9_number 51 = .ok (.getfield 141, 3) := by decide +kernel
theorem dX9_number_54 : decode cX9_number 54 = .ok (.iaload, 1) := by decide +kernel
theorem dX9_number_55 : decode cX9_number 55 = .ok (.invokestatic 158, 3) := by decide +kernel
theorem dX9_number_58 : decode cX9_number 58 = .ok (.ifCond .eq 60, 3) := by decide +kernel
theorem dX9_number_61 : decode cX9_number 61 = .ok (.aload_n 0, 1) := by decide +kernel
theorem dX9_number_62 : decode cX9_number 62 = .ok (.getfield 141, 3) := by decide +kernel
theorem dX9_number_65 : decode cX9_number 65 = .ok (.aload_n 0, 1) := by decide +kernel
theorem dX9_number_66 : decode cX9_number 66 = .ok (.getfield 147, 3) := by decide +kernel
theorem dX9_number_69 : decode cX9_number 69 = .ok (.isub, 1) := by decide +kernel
theorem dX9_number_7 : decode cX9_number 7 = .ok (.ifCond .eq 14, 3) := by decide +kernel
theorem dX9_number_70 : decode cX9_number 70 = .ok (.iload_n 1, 1) := by decide +kernel
theorem dX9_number_71 : decode cX9_number 71 = .ok (.if_icmp .ne 14, 3) := by decide +kernel
theorem dX9_number_74 : decode cX9_number 74 = .ok (.aload_n 0, 1) := by decide +kernel
theorem dX9_number_75 : decode cX9_number 75 = .ok (.iconst 1, 1) := by decide +kernel
theorem dX9_number_76 : decode cX9_number 76 = .ok (.aload_n 0, 1) := by decide +kernel
theorem dX9_number_77 : decode cX9_number 77 = .ok (.getfield 141, 3) := by decide +kernel
theorem dX9_number_80 : decode cX9_number 80 = .ok (.invokevirtual 154, 3) := by decide +kernel
theorem dX9_number_83 : decode cX9_number 83 = .ok (.iconst 0, 1) := by decide +kernel
theorem dX9_number_84 : decode cX9_number 84 = .ok (.ireturn, 1) := by decide +kernel
theorem dX9_number_85 : decode cX9_number 85 = .ok (.bipush 10, 2) := by decide +kernel
theorem dX9_number_87 : decode cX9_number 87 = .ok (.iload 4, 2) := by decide +kernel
theorem dX9_number_89 : decode cX9_number 89 = .ok (.imul, 1) := by decide +kernel
theorem dX9_number_90 : decode cX9_number 90 = .ok (.aload_n 0, 1) := by decide +kernel
theorem dX9_number_91 : decode cX9_number 91 = .ok (.getfield 39, 3) := by decide +kernel
theorem dX9_number_94 : decode cX9_number 94 = .ok (.aload_n 0, 1) := by decide +kernel
theorem dX9_number_95 : decode cX9_number 95 = .ok (.getfield 141, 3) := by decide +kernel
theorem dX9_number_98 : decode cX9_number 98 = .ok (.iaload, 1) := by decide +kernel
theorem dX9_number_99 : decode cX9_number 99 = .ok (.iadd, 1) := by decide +kernel
def wp_X9_number : List Cond := .code yX9_number cX9_number 5 (some .int) :: ([.methodLink RX9 150 yX9_next, .instanceMethod yX9_next, .selects RX9 yX9_next yX9_next, .initialized RX9, .methodLink RX9 158 yX9_isDigit, .static yX9_isDigit, .fieldLink RX9 141 "RecordBenchModel" "at" "I", .fieldLink RX9 162 "RecordBenchModel" "ended" "I", .fieldLink RX9 144 "RecordBenchModel" "size" "I", .fieldLink RX9 147 "RecordBenchModel" "begun" "I", .methodLink RX9 154 yX9_fail, .instanceMethod yX9_fail, .selects RX9 yX9_fail yX9_fail, .fieldLink RX9 39 "RecordBenchModel" "tape" "[I", .code yX9_next cX9_next 1 (some .int), .code yX9_isDigit cX9_isDigit 1 (some .boolean), .code yX9_fail cX9_fail 3 none, .fieldLink RX9 135 "RecordBenchModel" "bad" "I", .fieldLink RX9 138 "RecordBenchModel" "badPlace" "I"] ++ wsX90)
set_option maxRecDepth 20000 in
theorem gp_X9_number_X9_next_150 : GoodIn wp_X9_number (wsV RX9 150 RX9 yX9_next wp_X9_next) := goodIn_p _ [15] rfl (by decide +kernel)
set_option maxRecDepth 20000 in
theorem gp_X9_number_X9_isDigit_158 : GoodIn wp_X9_number (wsS RX9 158 yX9_isDigit wp_X9_isDigit) := goodIn_p _ [16] rfl (by decide +kernel)
set_option maxRecDepth 20000 in
theorem gp_X9_number_X9_fail_154 : GoodIn wp_X9_number (wsV RX9 154 RX9 yX9_fail wp_X9_fail) := goodIn_p _ [17] rfl (by decide +kernel)
set_option maxHeartbeats 4000000 in
set_option maxRecDepth 100000 in
theorem c_X9_number (l : Launch) (dC : Nat → ClassId) (dI : Nat → Nat → Nat) (h0 : Nat) (g : Nat → Value) (a9 : Nat) (cT : ClassId) (f : Nat → Int32) (j : Nat) (n : Nat) (b0 : Int32) (v14 : Value) (x18 : Int32) (fh9 : g 9 = .ref a9) (fh11 : g 11 = .int (nI j)) (fh12 : g 12 = .int (nI n)) (fh13 : g 13 = .int b0) (fh14 : g 14 = v14) (fh18 : g 18 = .int x18) (hj : j ≤ n) (hn : n ≤ 400) (sz : Nat) : Met l yX9_number wp_X9_number ({ frames := 1, cells := 0, slots := 0, locals := 26 }) (va_Pc [.ref h0, .int 2, .int 1, .int 30] (Pr (dC, dI) [(cT, .int)] [] [(h0, .inr (11, mo g)), (a9, .inl (cT, 400, .inl f))] sz)) (va_Qi (fun r : Int32 => (fun (u : (Nat → Value) × Nat × Int32 × Int32) => match u with | (g1, j1, b1, x1) => (((isD (tat f n (tsk f n j)) ∧ x18 ≠ nI (tsk f n j) ∧ tde f n (tsk f n j) - tsk f n j ≤ 2 ∧ ¬ tnu f (tsk f n j) (tde f n (tsk f n j) - tsk f n j) < 1 ∧ tnu f (tsk f n j) (tde f n (tsk f n j) - tsk f n j) ≤ 30) ∧ tsk f n j < n ∧ j1 = tde f n (tsk f n j) ∧ b1 = b0 ∧ r = tnu f (tsk f n j) (tde f n (tsk f n j) - tsk f n j) ∧ x1 = nI (tde f n (tsk f n j))) ∨ (¬ (isD (tat f n (tsk f n j)) ∧ x18 ≠ nI (tsk f n j) ∧ tde f n (tsk f n j) - tsk f n j ≤ 2 ∧ ¬ tnu f (tsk f n j) (tde f n (tsk f n j) - tsk f n j) < 1 ∧ tnu f (tsk f n j) (tde f n (tsk f n j) - tsk f n j) ≤ 30) ∧ j1 ≤ n ∧ b1 ≠ 0)) ∧ (g1 11 = .int (nI j1)) ∧ (g1 13 = .int b1) ∧ (g1 17 = .int (nI (tsk f n j))) ∧ (g1 18 = .int x1) ∧ (∀ j : Nat, j ≠ 11 → j ≠ 13 → j ≠ 14 → j ≠ 17 → j ≠ 18 → g1 j = g j))) (Bq (dC, dI) (fun (u : (Nat → Value) × Nat × Int32 × Int32) => match u with | (g1, j1, b1, x1) => [(h0, .inr (11, mo g1)), (a9, .inl (cT, 400, .inl f))]) (fun (u : (Nat → Value) × Nat × Int32 × Int32) => match u with | (g1, j1, b1, x1) => []) (va_A [(h0, .inr (11, mo g)), (a9, .inl (cT, 400, .inl f))] sz)) (va_A [(h0, .inr (11, mo g)), (a9, .inl (cT, 400, .inl f))] sz)) 0 0 (va_A [(h0, .inr (11, mo g)), (a9, .inl (cT, 400, .inl f))] sz) := by
  refine Met.ofW (cc := cX9_number) (maxL := 5) (ret := (some .int)) (by decide) rfl ?_
  intro p e s m args below meth c s₁ B hml hv
  obtain ⟨rfl, hsz, hP, hK, hD0, hN, hZ, hR⟩ := hv
  have hx := B.exec
  have hb := B.bytes
  have hr := B.returns
  have hts := atoms_spec (ws := wp_X9_number) B.pre
  have hown : s.vm.findClass RX9 = some m.cls := findClass_of_methodNamed B.named
  have hlocks := B.notSynchronized
  have iRX9 : ∀ w ∈ u_ws RX9 TX9 60, w ∈ wp_X9_number := by decide +kernel
  subst hsz
  have hD := hD0.self (sz := s.heap.size)
  generalize hAe : va_A [(h0, .inr (11, mo g)), (a9, .inl (cT, 400, .inl f))] s.heap.size = A at hD hZ hR ⊢
  have hA : ∀ q : Nat, s.heap.size ≤ q → A q := fun q h => by rw [← hAe]; exact Or.inr h
  have hS : va_S A s.heap s.heap [] := va_S.rf
  have hP : va_P (dC, dI) vwCl [(h0, .inr (11, mo g)), (a9, .inl (cT, 400, .inl f))] s.heap := hP
  have hl := lv_entry ([.ref h0, .int 2, .int 1, .int 30]) (n := 5) (Nat.le_of_ble_eq_true rfl)
  rw [lg_entry_eq]
  generalize (lg_sl ([.ref h0, .int 2, .int 1, .int 30]) ++ List.replicate (5 - (lg_sl ([.ref h0, .int 2, .int 1, .int 30])).length) Slot.unset).toArray = ls at hl ⊢
  have hl : lv_has ls 5 [(0, .ref h0), (1, .int 2), (2, .int 1), (3, .int 30)] := hl
  have hq1 := tsk_ge f n j
  have hq2 := tsk_le (f := f) (n := n) hj
  refine lv_aload_n hx hb dX9_number_0 rfl (lv_at hl 0 rfl) ?_
  have hFc := va_free (wc := [(h0, .inr (11, mo g)), (a9, .inl (cT, 400, .inl f))]) hD hS hA [0, 1] rfl
  refine va_calli (va_runV (As := []) (rest := []) ⟨hx, hb, hml, hown, hts⟩ (c_X9_next l dC dI h0 g a9 cT f j n fh9 fh11 fh12 (by omega) (by omega) s.heap.size) (cwV 0 hts gp_X9_number_X9_next_150 rfl rfl rfl (by decide +kernel) ⟨Nat.le_of_ble_eq_true rfl, Nat.le_of_ble_eq_true rfl⟩) ⟨Pr.blind _, va_recv hK hP (ci := 11) (q0 := 0) rfl rfl, fun U hU hW => ⟨rfl, Pr.at (hP.sub (ws' := [(h0, .inr (11, mo g)), (a9, .inl (cT, 400, .inl f))]) [0, 1] rfl) (hK.sub (tys' := [(cT, .int)]) [0] rfl) (hD.sub (ws' := [(h0, .inr (11, mo g)), (a9, .inl (cT, 400, .inl f))]) [0, 1] (by decide) rfl) hN hZ RO.nil hS hFc hU hW⟩⟩ rfl rfl hl.1 rfl (lv_room (Nat.le_of_ble_eq_true rfl)) dX9_number_1 ⟨Nat.le_of_ble_eq_true rfl, Nat.le_of_ble_eq_true rfl⟩) hS (fun q _ h => hFc q h) hFc (fun r_1 u t H1 locs ht hvm hw_2 hB hz1 hk1 hS => ?_)
  obtain ⟨g1_3, rfl⟩ : ∃ z, z = u := ⟨_, rfl⟩
  obtain ⟨hP, hD, hK⟩ := Bq.join (wr := []) hB ht hvm hP hD [0, 1] [] rfl rfl (by decide) (by decide) hk1 hFc hK
  generalize H1 = H at hP hS ⊢
  have hP : va_P (dC, dI) vwCl [(h0, .inr (11, mo g1_3)), (a9, .inl (cT, 400, .inl f))] H := hP
  have hD : va_D A [(h0, .inr (11, mo g1_3)), (a9, .inl (cT, 400, .inl f))] := hD
  have hK : va_K (dC, dI) vwCl [(cT, .int)] s := hK
  try dsimp only at hw_2
  obtain ⟨k_4, k_5, k_6, k_7⟩ := hw_2
  have w_8 : g1_3 9 = .ref a9 := (k_7 9 (by decide) (by decide)).trans fh9
  have w_9 : g1_3 12 = .int (nI n) := (k_7 12 (by decide) (by decide)).trans fh12
  have w_10 : g1_3 13 = .int b0 := (k_7 13 (by decide) (by decide)).trans fh13
  have w_11 : g1_3 14 = v14 := (k_7 14 (by decide) (by decide)).trans fh14
  have w_12 : g1_3 18 = .int x18 := (k_7 18 (by decide) (by decide)).trans fh18
  have un_13 : ∀ j : Nat, j ≠ 11 → j ≠ 17 → g1_3 j = g j := fun j h11 h17 => (k_7 j h11 h17)
  refine W_toi (y := tat f n (tsk f n j)) k_4 ?_
  have hFc := va_free (wc := []) hD hS hA [] rfl
  refine va_calli (va_runS (As := [.int (tat f n (tsk f n j))]) (rest := []) ⟨hx, hb, hml, hown, hts⟩ (c_X9_isDigit l dC dI (tat f n (tsk f n j)) H.size) (cwS 1 hts gp_X9_number_X9_isDigit_158 rfl rfl rfl (by decide +kernel) ⟨Nat.le_of_ble_eq_true rfl, Nat.le_of_ble_eq_true rfl⟩) ⟨Pr.blind _, fun U hU hW => ⟨rfl, Pr.at (hP.sub (ws' := []) [] rfl) (hK.sub (tys' := []) [] rfl) (hD.sub (ws' := []) [] (by decide) rfl) hN hZ RO.nil hS hFc hU hW⟩⟩ rfl rfl hl.1 rfl (lv_room (Nat.le_of_ble_eq_true rfl)) dX9_number_4 ⟨Nat.le_of_ble_eq_true rfl, Nat.le_of_ble_eq_true rfl⟩) hS (fun q _ h => hFc q h) hFc (fun r_14 u t H1 locs ht hvm hw_15 hB hz1 hk1 hS => ?_)
  obtain ⟨hP, hD, hK⟩ := Bq.join (wr := [(h0, .inr (11, mo g1_3)), (a9, .inl (cT, 400, .inl f))]) hB ht hvm hP hD [] [0, 1] rfl rfl (by decide) (by decide) hk1 hFc hK
  generalize H1 = H at hP hS ⊢
  have hP : va_P (dC, dI) vwCl [(h0, .inr (11, mo g1_3)), (a9, .inl (cT, 400, .inl f))] H := hP
  have hD : va_D A [(h0, .inr (11, mo g1_3)), (a9, .inl (cT, 400, .inl f))] := hD
  have hK : va_K (dC, dI) vwCl [(cT, .int)] s := hK
  try dsimp only at hw_15
  have k_16 := hw_15
  rcases k_16 with ⟨ho, rfl⟩ | ⟨ho, rfl⟩
  · refine W.eq (g2 := F0 m 7 ls [.int 1]) rfl ?_
    refine lv_if_eq (tgt := 21) hx hb dX9_number_7 (by decide) (fun c_17 => absurd c_17 (by decide)) (fun c_17 => ?_)
    refine lv_aload_n hx hb dX9_number_10 rfl (lv_at hl 0 rfl) ?_
    refine va_get (D := (dC, dI)) (ci := 11) (v := .int (nI (tsk f n j))) (C := RX9) (T := TX9) (N := 60) hx hb hts iRX9 hown hK hP 0 rfl rfl 11 (by decide) (hts (.fieldLink RX9 141 "RecordBenchModel" "at" "I") (by decide +kernel)) (fun _ h9 => h9) ((mo_get g1_3 (by decide)).trans (congrArg some k_5)) dX9_number_11 ?_
    refine lv_aload_n hx hb dX9_number_14 rfl (lv_at hl 0 rfl) ?_
    refine va_get (D := (dC, dI)) (ci := 11) (v := .int x18) (C := RX9) (T := TX9) (N := 60) hx hb hts iRX9 hown hK hP 0 rfl rfl 18 (by decide) (hts (.fieldLink RX9 162 "RecordBenchModel" "ended" "I") (by decide +kernel)) (fun _ h9 => h9) ((mo_get g1_3 (by decide)).trans (congrArg some w_12)) dX9_number_15 ?_
    refine lv_icmp_ne (tgt := 32) hx hb dX9_number_18 (by decide) (fun c_18 => ?_) (fun c_18 => ?_)
    · have hD0 := ho
      have hX0 : x18 ≠ nI (tsk f n j) := fun h => c_18 h.symm
      have hDn := isD_in hD0
      refine lv_iconst (v := 0) hx hb dX9_number_32 (by decide) ?_
      refine lv_istore (lv' := [(4, .int 0), (0, .ref h0), (1, .int 2), (2, .int 1), (3, .int 30)]) hx hb dX9_number_33 hl (by decide) rfl (fun ls hl => ?_)
      refine W_loop (σ := Nat × (Nat → Value)) (D := (dC, dI)) (A := A) [] (fun (u : Nat × (Nat → Value)) => match u with | (i, g2) => [(4, .int (tnu f (tsk f n j) (i - tsk f n j))), (0, .ref h0), (1, .int 2), (2, .int 1), (3, .int 30)]) (fun (u : Nat × (Nat → Value)) => match u with | (i, g2) => [(h0, .inr (11, mo g2)), (a9, .inl (cT, 400, .inl f))]) (fun (u : Nat × (Nat → Value)) => match u with | (i, g2) => (tsk f n j ≤ i) ∧ (i ≤ tsk f n j + 2) ∧ (i ≤ n) ∧ (tde f n i = tde f n (tsk f n j)) ∧ (g2 9 = .ref a9) ∧ (g2 11 = .int (nI i)) ∧ (g2 12 = .int (nI n)) ∧ (g2 13 = .int b0) ∧ (g2 14 = v14) ∧ (g2 17 = .int (nI (tsk f n j))) ∧ (g2 18 = .int x18) ∧ (∀ k : Nat, k ≠ 11 → k ≠ 17 → g2 k = g k)) (fun (u : Nat × (Nat → Value)) => match u with | (i, g2) => n - i) ?_ ((tsk f n j), g1_3) ⟨(Nat.le_refl _), (by omega), hq2, rfl, w_8, k_5, w_9, w_10, w_11, k_6, w_12, (fun k h1 h2 => un_13 k h1 h2)⟩ _ _ _ (hP.sub (ws' := [(h0, .inr (11, mo g1_3)), (a9, .inl (cT, 400, .inl f))]) [0, 1] rfl) (hD.sub (ws' := [(h0, .inr (11, mo g1_3)), (a9, .inl (cT, 400, .inl f))]) [0, 1] (by decide) rfl) hS (by show lv_has _ _ [(4, .int (tnu f (tsk f n j) (tsk f n j - tsk f n j))), (0, .ref h0), (1, .int 2), (2, .int 1), (3, .int 30)]; rw [Nat.sub_self]; exact lv_sub hl [0, 1, 2, 3, 4] rfl)
      intro u hI H locs ls hP hD hS hl ih
      obtain ⟨i, g2⟩ := u
      try dsimp only at hI
      obtain ⟨hi1, hi2, hi3, hde, h9, h11, h12, h13, h14, h17, h18, hun⟩ := hI
      have hP : va_P (dC, dI) vwCl [(h0, .inr (11, mo g2)), (a9, .inl (cT, 400, .inl f))] H := hP
      have hD : va_D A [(h0, .inr (11, mo g2)), (a9, .inl (cT, 400, .inl f))] := hD
      have hl : lv_has ls 5 [(4, .int (tnu f (tsk f n j) (i - tsk f n j))), (0, .ref h0), (1, .int 2), (2, .int 1), (3, .int 30)] := hl
      refine lv_aload_n hx hb dX9_number_35 rfl (lv_at hl 1 rfl) ?_
      refine va_get (D := (dC, dI)) (ci := 11) (v := .int (nI i)) (C := RX9) (T := TX9) (N := 60) hx hb hts iRX9 hown hK hP 0 rfl rfl 11 (by decide) (hts (.fieldLink RX9 141 "RecordBenchModel" "at" "I") (by decide +kernel)) (fun _ h9 => h9) ((mo_get g2 (by decide)).trans (congrArg some h11)) dX9_number_36 ?_
      refine lv_aload_n hx hb dX9_number_39 rfl (lv_at hl 1 rfl) ?_
      refine va_get (D := (dC, dI)) (ci := 11) (v := .int (nI n)) (C := RX9) (T := TX9) (N := 60) hx hb hts iRX9 hown hK hP 0 rfl rfl 12 (by decide) (hts (.fieldLink RX9 144 "RecordBenchModel" "size" "I") (by decide +kernel)) (fun _ h9 => h9) ((mo_get g2 (by decide)).trans (congrArg some h12)) dX9_number_40 ?_
      refine lv_icmp_ge (tgt := 118) hx hb dX9_number_43 (by decide) (fun c_19 => ?_) (fun c_19 => ?_)
      · have htd : tde f n (tsk f n j) = i := hde.symm.trans (tde_no (fun h => absurd h.1 (by have := nI_leN (by omega) (by omega) c_19; omega)))
        refine lv_aload_n hx hb dX9_number_118 rfl (lv_at hl 1 rfl) ?_
        refine lv_aload_n hx hb dX9_number_119 rfl (lv_at hl 1 rfl) ?_
        refine va_get (D := (dC, dI)) (ci := 11) (v := .int (nI i)) (C := RX9) (T := TX9) (N := 60) hx hb hts iRX9 hown hK hP 0 rfl rfl 11 (by decide) (hts (.fieldLink RX9 141 "RecordBenchModel" "at" "I") (by decide +kernel)) (fun _ h9 => h9) ((mo_get g2 (by decide)).trans (congrArg some h11)) dX9_number_120 ?_
        refine va_put (D := (dC, dI)) (ci := 11) (v := .int (nI i)) (ty := .int) (C := RX9) (T := TX9) (N := 60) hx hb hts iRX9 tyX9 tyX9_ok nmX9 hown hK hP hD hS 0 rfl rfl 18 (by decide) (hts (.fieldLink RX9 162 "RecordBenchModel" "ended" "I") (by decide +kernel)) (fun _ h9 => h9) rfl (by decide +kernel) rfl rfl (by rw [mo_len]; decide) dX9_number_123 (fun H locs hP hD hS => ?_)
        obtain ⟨g_20, eg_20⟩ : ∃ y, y = va_up g2 18 (.int (nI i)) := ⟨_, rfl⟩
        have hP : va_P (dC, dI) vwCl [(h0, .inr (11, mo g_20)), (a9, .inl (cT, 400, .inl f))] H := by rw [eg_20, ← mo_set g2 (by decide)]; exact hP
        have hD : va_D A [(h0, .inr (11, mo g_20)), (a9, .inl (cT, 400, .inl f))] := by rw [eg_20, ← mo_set g2 (by decide)]; exact hD
        have g_20h9 : g_20 9 = .ref a9 := by rw [eg_20, va_up_ne _ _ (by decide)]; exact h9
        have g_20h11 : g_20 11 = .int (nI i) := by rw [eg_20, va_up_ne _ _ (by decide)]; exact h11
        have g_20h12 : g_20 12 = .int (nI n) := by rw [eg_20, va_up_ne _ _ (by decide)]; exact h12
        have g_20h13 : g_20 13 = .int b0 := by rw [eg_20, va_up_ne _ _ (by decide)]; exact h13
        have g_20h14 : g_20 14 = v14 := by rw [eg_20, va_up_ne _ _ (by decide)]; exact h14
        have g_20h17 : g_20 17 = .int (nI (tsk f n j)) := by rw [eg_20, va_up_ne _ _ (by decide)]; exact h17
        have g_20h18 : g_20 18 = .int (nI i) := by rw [eg_20, va_up_self]
        have ung_20 : ∀ j : Nat, j ≠ 11 → j ≠ 17 → j ≠ 18 → g_20 j = g j := fun j h11 h17 h18 => by rw [eg_20, va_up_ne _ _ h18]; exact hun j h11 h17
        refine lv_iload hx hb dX9_number_126 (lv_at hl 0 rfl) ?_
        refine lv_iload_n hx hb dX9_number_128 rfl (lv_at hl 3 rfl) ?_
        refine lv_icmp_lt (tgt := 138) hx hb dX9_number_129 (by decide) (fun c_21 => ?_) (fun c_21 => ?_)
        · refine lv_aload_n hx hb dX9_number_138 rfl (lv_at hl 1 rfl) ?_
          refine lv_iconst (v := 2) hx hb dX9_number_139 (by decide) ?_
          refine lv_aload_n hx hb dX9_number_140 rfl (lv_at hl 1 rfl) ?_
          refine va_get (D := (dC, dI)) (ci := 11) (v := .int (nI (tsk f n j))) (C := RX9) (T := TX9) (N := 60) hx hb hts iRX9 hown hK hP 0 rfl rfl 17 (by decide) (hts (.fieldLink RX9 147 "RecordBenchModel" "begun" "I") (by decide +kernel)) (fun _ h9 => h9) ((mo_get g_20 (by decide)).trans (congrArg some g_20h17)) dX9_number_141 ?_
          have hFc := va_free (wc := [(h0, .inr (11, mo g_20))]) hD hS hA [0] rfl
          refine va_callv (va_runV (As := [.int 2, .int (nI (tsk f n j))]) (rest := []) ⟨hx, hb, hml, hown, hts⟩ (c_X9_fail l dC dI h0 g_20 b0 (v14) g_20h13 g_20h14 2 (nI (tsk f n j)) (by decide) H.size) (cwV 2 hts gp_X9_number_X9_fail_154 rfl rfl rfl (by decide +kernel) ⟨Nat.le_of_ble_eq_true rfl, Nat.le_of_ble_eq_true rfl⟩) ⟨Pr.blind _, va_recv hK hP (ci := 11) (q0 := 0) rfl rfl, fun U hU hW => ⟨rfl, Pr.at (hP.sub (ws' := [(h0, .inr (11, mo g_20))]) [0] rfl) (hK.sub (tys' := []) [] rfl) (hD.sub (ws' := [(h0, .inr (11, mo g_20))]) [0] (by decide) rfl) hN hZ RO.nil hS hFc hU hW⟩⟩ rfl rfl hl.1 rfl (lv_room (Nat.le_of_ble_eq_true rfl)) dX9_number_144 ⟨Nat.le_of_ble_eq_true rfl, Nat.le_of_ble_eq_true rfl⟩) hS (fun q _ h => hFc q h) hFc (fun u t H1 locs ht hvm hw_23 hB hz1 hk1 hS => ?_)
          obtain ⟨g1_24, b1_25⟩ := u
          obtain ⟨hP, hD, hK⟩ := Bq.join (wr := [(a9, .inl (cT, 400, .inl f))]) hB ht hvm hP hD [0] [1] rfl rfl (by decide) (by decide) hk1 hFc hK
          generalize H1 = H at hP hS ⊢
          have hP : va_P (dC, dI) vwCl [(a9, .inl (cT, 400, .inl f)), (h0, .inr (11, mo g1_24))] H := hP
          have hD : va_D A [(a9, .inl (cT, 400, .inl f)), (h0, .inr (11, mo g1_24))] := hD
          have hK : va_K (dC, dI) vwCl [(cT, .int)] s := hK
          try dsimp only at hw_23
          obtain ⟨k_26, k_27, k_28⟩ := hw_23
          have w_29 : g1_24 9 = .ref a9 := (k_28 9 (by decide) (by decide)).trans g_20h9
          have w_30 : g1_24 11 = .int (nI i) := (k_28 11 (by decide) (by decide)).trans g_20h11
          have w_31 : g1_24 12 = .int (nI n) := (k_28 12 (by decide) (by decide)).trans g_20h12
          have w_32 : g1_24 17 = .int (nI (tsk f n j)) := (k_28 17 (by decide) (by decide)).trans g_20h17
          have w_33 : g1_24 18 = .int (nI i) := (k_28 18 (by decide) (by decide)).trans g_20h18
          have un_34 : ∀ j : Nat, j ≠ 11 → j ≠ 13 → j ≠ 14 → j ≠ 17 → j ≠ 18 → g1_24 j = g j := fun j h11 h13 h14 h17 h18 => (k_28 j h13 h14).trans (ung_20 j h11 h17 h18)
          refine lv_iload hx hb dX9_number_147 (lv_at hl 0 rfl) ?_
          have hP9 := hP.sub (ws' := [(h0, .inr (11, mo g1_24)), (a9, .inl (cT, 400, .inl f))]) [1, 0] rfl
          have hD9 := hD.sub (ws' := [(h0, .inr (11, mo g1_24)), (a9, .inl (cT, 400, .inl f))]) [1, 0] (by decide) rfl
          have hK9 := hK.sub (tys' := []) [] rfl
          exact W.iret (v := tnu f (tsk f n j) (i - tsk f n j)) hx hb hr (fun t ht hW => ⟨⟨tnu f (tsk f n j) (i - tsk f n j), (g1_24, i, b1_25, (nI i)), rfl, ⟨Or.inr ⟨fun h => h.2.2.2.1 (by rw [htd]; exact c_21), hi3, k_26⟩, w_30, k_27, w_32, w_33, (fun j h11 h13 h14 h17 h18 => un_34 j h11 h13 h14 h17 h18)⟩, by rw [ht]; exact hP9, va_K.moved hW.alike hK9, hD9⟩, hS.F ht⟩) hS.2.2 dX9_number_149
        · refine lv_iload hx hb dX9_number_132 (lv_at hl 0 rfl) ?_
          refine lv_iload_n hx hb dX9_number_134 rfl (lv_at hl 4 rfl) ?_
          refine lv_icmp_le (tgt := 147) hx hb dX9_number_135 (by decide) (fun c_35 => ?_) (fun c_35 => ?_)
          · refine lv_iload hx hb dX9_number_147 (lv_at hl 0 rfl) ?_
            have hP9 := hP.sub (ws' := [(h0, .inr (11, mo g_20)), (a9, .inl (cT, 400, .inl f))]) [0, 1] rfl
            have hD9 := hD.sub (ws' := [(h0, .inr (11, mo g_20)), (a9, .inl (cT, 400, .inl f))]) [0, 1] (by decide) rfl
            have hK9 := hK.sub (tys' := []) [] rfl
            exact W.iret (v := tnu f (tsk f n j) (i - tsk f n j)) hx hb hr (fun t ht hW => ⟨⟨tnu f (tsk f n j) (i - tsk f n j), (g_20, i, b0, (nI i)), rfl, ⟨Or.inl ⟨⟨hD0, hX0, by rw [htd]; omega, by rw [htd]; exact c_21, by rw [htd]; exact c_35⟩, isD_in hD0, htd.symm, rfl, by rw [htd], by rw [htd]⟩, g_20h11, g_20h13, g_20h17, g_20h18, (fun j h11 h13 h14 h17 h18 => ung_20 j h11 h17 h18)⟩, by rw [ht]; exact hP9, va_K.moved hW.alike hK9, hD9⟩, hS.F ht⟩) hS.2.2 dX9_number_149
          · refine lv_aload_n hx hb dX9_number_138 rfl (lv_at hl 1 rfl) ?_
            refine lv_iconst (v := 2) hx hb dX9_number_139 (by decide) ?_
            refine lv_aload_n hx hb dX9_number_140 rfl (lv_at hl 1 rfl) ?_
            refine va_get (D := (dC, dI)) (ci := 11) (v := .int (nI (tsk f n j))) (C := RX9) (T := TX9) (N := 60) hx hb hts iRX9 hown hK hP 0 rfl rfl 17 (by decide) (hts (.fieldLink RX9 147 "RecordBenchModel" "begun" "I") (by decide +kernel)) (fun _ h9 => h9) ((mo_get g_20 (by decide)).trans (congrArg some g_20h17)) dX9_number_141 ?_
            have hFc := va_free (wc := [(h0, .inr (11, mo g_20))]) hD hS hA [0] rfl
            refine va_callv (va_runV (As := [.int 2, .int (nI (tsk f n j))]) (rest := []) ⟨hx, hb, hml, hown, hts⟩ (c_X9_fail l dC dI h0 g_20 b0 (v14) g_20h13 g_20h14 2 (nI (tsk f n j)) (by decide) H.size) (cwV 2 hts gp_X9_number_X9_fail_154 rfl rfl rfl (by decide +kernel) ⟨Nat.le_of_ble_eq_true rfl, Nat.le_of_ble_eq_true rfl⟩) ⟨Pr.blind _, va_recv hK hP (ci := 11) (q0 := 0) rfl rfl, fun U hU hW => ⟨rfl, Pr.at (hP.sub (ws' := [(h0, .inr (11, mo g_20))]) [0] rfl) (hK.sub (tys' := []) [] rfl) (hD.sub (ws' := [(h0, .inr (11, mo g_20))]) [0] (by decide) rfl) hN hZ RO.nil hS hFc hU hW⟩⟩ rfl rfl hl.1 rfl (lv_room (Nat.le_of_ble_eq_true rfl)) dX9_number_144 ⟨Nat.le_of_ble_eq_true rfl, Nat.le_of_ble_eq_true rfl⟩) hS (fun q _ h => hFc q h) hFc (fun u t H1 locs ht hvm hw_37 hB hz1 hk1 hS => ?_)
            obtain ⟨g1_38, b1_39⟩ := u
            obtain ⟨hP, hD, hK⟩ := Bq.join (wr := [(a9, .inl (cT, 400, .inl f))]) hB ht hvm hP hD [0] [1] rfl rfl (by decide) (by decide) hk1 hFc hK
            generalize H1 = H at hP hS ⊢
            have hP : va_P (dC, dI) vwCl [(a9, .inl (cT, 400, .inl f)), (h0, .inr (11, mo g1_38))] H := hP
            have hD : va_D A [(a9, .inl (cT, 400, .inl f)), (h0, .inr (11, mo g1_38))] := hD
            have hK : va_K (dC, dI) vwCl [(cT, .int)] s := hK
            try dsimp only at hw_37
            obtain ⟨k_40, k_41, k_42⟩ := hw_37
            have w_43 : g1_38 9 = .ref a9 := (k_42 9 (by decide) (by decide)).trans g_20h9
            have w_44 : g1_38 11 = .int (nI i) := (k_42 11 (by decide) (by decide)).trans g_20h11
            have w_45 : g1_38 12 = .int (nI n) := (k_42 12 (by decide) (by decide)).trans g_20h12
            have w_46 : g1_38 17 = .int (nI (tsk f n j)) := (k_42 17 (by decide) (by decide)).trans g_20h17
            have w_47 : g1_38 18 = .int (nI i) := (k_42 18 (by decide) (by decide)).trans g_20h18
            have un_48 : ∀ j : Nat, j ≠ 11 → j ≠ 13 → j ≠ 14 → j ≠ 17 → j ≠ 18 → g1_38 j = g j := fun j h11 h13 h14 h17 h18 => (k_42 j h13 h14).trans (ung_20 j h11 h17 h18)
            refine lv_iload hx hb dX9_number_147 (lv_at hl 0 rfl) ?_
            have hP9 := hP.sub (ws' := [(h0, .inr (11, mo g1_38)), (a9, .inl (cT, 400, .inl f))]) [1, 0] rfl
            have hD9 := hD.sub (ws' := [(h0, .inr (11, mo g1_38)), (a9, .inl (cT, 400, .inl f))]) [1, 0] (by decide) rfl
            have hK9 := hK.sub (tys' := []) [] rfl
            exact W.iret (v := tnu f (tsk f n j) (i - tsk f n j)) hx hb hr (fun t ht hW => ⟨⟨tnu f (tsk f n j) (i - tsk f n j), (g1_38, i, b1_39, (nI i)), rfl, ⟨Or.inr ⟨fun h => c_35 (by have := h.2.2.2.2; rw [htd] at this; exact this), hi3, k_40⟩, w_44, k_41, w_46, w_47, (fun j h11 h13 h14 h17 h18 => un_48 j h11 h13 h14 h17 h18)⟩, by rw [ht]; exact hP9, va_K.moved hW.alike hK9, hD9⟩, hS.F ht⟩) hS.2.2 dX9_number_149
      · have hlt : i < n := nI_ltN (by omega) (by omega) c_19
        refine lv_aload_n hx hb dX9_number_46 rfl (lv_at hl 1 rfl) ?_
        refine va_get (D := (dC, dI)) (ci := 11) (v := .ref a9) (C := RX9) (T := TX9) (N := 60) hx hb hts iRX9 hown hK hP 0 rfl rfl 9 (by decide) (hts (.fieldLink RX9 39 "RecordBenchModel" "tape" "[I") (by decide +kernel)) (fun _ h9 => h9) ((mo_get g2 (by decide)).trans (congrArg some h9)) dX9_number_47 ?_
        refine lv_aload_n hx hb dX9_number_50 rfl (lv_at hl 1 rfl) ?_
        refine va_get (D := (dC, dI)) (ci := 11) (v := .int (nI i)) (C := RX9) (T := TX9) (N := 60) hx hb hts iRX9 hown hK hP 0 rfl rfl 11 (by decide) (hts (.fieldLink RX9 141 "RecordBenchModel" "at" "I") (by decide +kernel)) (fun _ h9 => h9) ((mo_get g2 (by decide)).trans (congrArg some h11)) dX9_number_51 ?_
        refine va_iald hx hb hK hP 1 0 rfl rfl (vp_in_nI (by omega) (by decide)) dX9_number_54 ?_
        refine W_toi (y := f i) (by rw [nI_clamp (by omega)]) ?_
        have hFc := va_free (wc := []) hD hS hA [] rfl
        refine va_calli (va_runS (As := [.int (f i)]) (rest := []) ⟨hx, hb, hml, hown, hts⟩ (c_X9_isDigit l dC dI (f i) H.size) (cwS 1 hts gp_X9_number_X9_isDigit_158 rfl rfl rfl (by decide +kernel) ⟨Nat.le_of_ble_eq_true rfl, Nat.le_of_ble_eq_true rfl⟩) ⟨Pr.blind _, fun U hU hW => ⟨rfl, Pr.at (hP.sub (ws' := []) [] rfl) (hK.sub (tys' := []) [] rfl) (hD.sub (ws' := []) [] (by decide) rfl) hN hZ RO.nil hS hFc hU hW⟩⟩ rfl rfl hl.1 rfl (lv_room (Nat.le_of_ble_eq_true rfl)) dX9_number_55 ⟨Nat.le_of_ble_eq_true rfl, Nat.le_of_ble_eq_true rfl⟩) hS (fun q _ h => hFc q h) hFc (fun r_49 u t H1 locs ht hvm hw_50 hB hz1 hk1 hS => ?_)
        obtain ⟨hP, hD, hK⟩ := Bq.join (wr := [(h0, .inr (11, mo g2)), (a9, .inl (cT, 400, .inl f))]) hB ht hvm hP hD [] [0, 1] rfl rfl (by decide) (by decide) hk1 hFc hK
        generalize H1 = H at hP hS ⊢
        have hP : va_P (dC, dI) vwCl [(h0, .inr (11, mo g2)), (a9, .inl (cT, 400, .inl f))] H := hP
        have hD : va_D A [(h0, .inr (11, mo g2)), (a9, .inl (cT, 400, .inl f))] := hD
        have hK : va_K (dC, dI) vwCl [(cT, .int)] s := hK
        try dsimp only at hw_50
        have k_51 := hw_50
        rcases k_51 with ⟨ho, rfl⟩ | ⟨ho, rfl⟩
        · refine W.eq (g2 := F0 m 58 ls [.int 1]) rfl ?_
          refine lv_if_eq (tgt := 118) hx hb dX9_number_58 (by decide) (fun c_52 => absurd c_52 (by decide)) (fun c_52 => ?_)
          refine lv_aload_n hx hb dX9_number_61 rfl (lv_at hl 1 rfl) ?_
          refine va_get (D := (dC, dI)) (ci := 11) (v := .int (nI i)) (C := RX9) (T := TX9) (N := 60) hx hb hts iRX9 hown hK hP 0 rfl rfl 11 (by decide) (hts (.fieldLink RX9 141 "RecordBenchModel" "at" "I") (by decide +kernel)) (fun _ h9 => h9) ((mo_get g2 (by decide)).trans (congrArg some h11)) dX9_number_62 ?_
          refine lv_aload_n hx hb dX9_number_65 rfl (lv_at hl 1 rfl) ?_
          refine va_get (D := (dC, dI)) (ci := 11) (v := .int (nI (tsk f n j))) (C := RX9) (T := TX9) (N := 60) hx hb hts iRX9 hown hK hP 0 rfl rfl 17 (by decide) (hts (.fieldLink RX9 147 "RecordBenchModel" "begun" "I") (by decide +kernel)) (fun _ h9 => h9) ((mo_get g2 (by decide)).trans (congrArg some h17)) dX9_number_66 ?_
          refine lv_isub hx hb dX9_number_69 ?_
          refine W_toi (y := nI (i - tsk f n j)) (pk_sub hi1) ?_
          refine lv_iload_n hx hb dX9_number_70 rfl (lv_at hl 2 rfl) ?_
          refine lv_icmp_ne (tgt := 85) hx hb dX9_number_71 (by decide) (fun c_53 => ?_) (fun c_53 => ?_)
          · have hne : i - tsk f n j ≠ 2 := fun h => c_53 (by rw [h]; rfl)
            refine lv_bipush (v := 10) hx hb dX9_number_85 (by decide) ?_
            refine lv_iload hx hb dX9_number_87 (lv_at hl 0 rfl) ?_
            refine lv_imul hx hb dX9_number_89 ?_
            refine lv_aload_n hx hb dX9_number_90 rfl (lv_at hl 1 rfl) ?_
            refine va_get (D := (dC, dI)) (ci := 11) (v := .ref a9) (C := RX9) (T := TX9) (N := 60) hx hb hts iRX9 hown hK hP 0 rfl rfl 9 (by decide) (hts (.fieldLink RX9 39 "RecordBenchModel" "tape" "[I") (by decide +kernel)) (fun _ h9 => h9) ((mo_get g2 (by decide)).trans (congrArg some h9)) dX9_number_91 ?_
            refine lv_aload_n hx hb dX9_number_94 rfl (lv_at hl 1 rfl) ?_
            refine va_get (D := (dC, dI)) (ci := 11) (v := .int (nI i)) (C := RX9) (T := TX9) (N := 60) hx hb hts iRX9 hown hK hP 0 rfl rfl 11 (by decide) (hts (.fieldLink RX9 141 "RecordBenchModel" "at" "I") (by decide +kernel)) (fun _ h9 => h9) ((mo_get g2 (by decide)).trans (congrArg some h11)) dX9_number_95 ?_
            refine va_iald hx hb hK hP 1 0 rfl rfl (vp_in_nI (by omega) (by decide)) dX9_number_98 ?_
            refine W_toi (y := f i) (by rw [nI_clamp (by omega)]) ?_
            refine lv_iadd hx hb dX9_number_99 ?_
            refine lv_bipush (v := 48) hx hb dX9_number_100 (by decide) ?_
            refine lv_isub hx hb dX9_number_102 ?_
            refine W_toi (y := tnu f (tsk f n j) (i + 1 - tsk f n j)) (tnu_step hi1) ?_
            refine lv_istore (lv' := [(4, .int (tnu f (tsk f n j) (i + 1 - tsk f n j))), (0, .ref h0), (1, .int 2), (2, .int 1), (3, .int 30)]) hx hb dX9_number_103 hl (by decide) rfl (fun ls hl => ?_)
            refine lv_aload_n hx hb dX9_number_105 rfl (lv_at hl 1 rfl) ?_
            refine lv_dup hx hb dX9_number_106 rfl ?_
            refine va_get (D := (dC, dI)) (ci := 11) (v := .int (nI i)) (C := RX9) (T := TX9) (N := 60) hx hb hts iRX9 hown hK hP 0 rfl rfl 11 (by decide) (hts (.fieldLink RX9 141 "RecordBenchModel" "at" "I") (by decide +kernel)) (fun _ h9 => h9) ((mo_get g2 (by decide)).trans (congrArg some h11)) dX9_number_107 ?_
            refine lv_iconst (v := 1) hx hb dX9_number_110 (by decide) ?_
            refine lv_iadd hx hb dX9_number_111 ?_
            refine W_toi (y := nI (i + 1)) (nI_1 i) ?_
            refine va_put (D := (dC, dI)) (ci := 11) (v := .int (nI (i + 1))) (ty := .int) (C := RX9) (T := TX9) (N := 60) hx hb hts iRX9 tyX9 tyX9_ok nmX9 hown hK hP hD hS 0 rfl rfl 11 (by decide) (hts (.fieldLink RX9 141 "RecordBenchModel" "at" "I") (by decide +kernel)) (fun _ h9 => h9) rfl (by decide +kernel) rfl rfl (by rw [mo_len]; decide) dX9_number_112 (fun H locs hP hD hS => ?_)
            obtain ⟨g_54, eg_54⟩ : ∃ y, y = va_up g2 11 (.int (nI (i + 1))) := ⟨_, rfl⟩
            have hP : va_P (dC, dI) vwCl [(h0, .inr (11, mo g_54)), (a9, .inl (cT, 400, .inl f))] H := by rw [eg_54, ← mo_set g2 (by decide)]; exact hP
            have hD : va_D A [(h0, .inr (11, mo g_54)), (a9, .inl (cT, 400, .inl f))] := by rw [eg_54, ← mo_set g2 (by decide)]; exact hD
            have g_54h9 : g_54 9 = .ref a9 := by rw [eg_54, va_up_ne _ _ (by decide)]; exact h9
            have g_54h12 : g_54 12 = .int (nI n) := by rw [eg_54, va_up_ne _ _ (by decide)]; exact h12
            have g_54h13 : g_54 13 = .int b0 := by rw [eg_54, va_up_ne _ _ (by decide)]; exact h13
            have g_54h14 : g_54 14 = v14 := by rw [eg_54, va_up_ne _ _ (by decide)]; exact h14
            have g_54h17 : g_54 17 = .int (nI (tsk f n j)) := by rw [eg_54, va_up_ne _ _ (by decide)]; exact h17
            have g_54h18 : g_54 18 = .int x18 := by rw [eg_54, va_up_ne _ _ (by decide)]; exact h18
            have g_54h11 : g_54 11 = .int (nI (i + 1)) := by rw [eg_54, va_up_self]
            have ung_54 : ∀ j : Nat, j ≠ 11 → j ≠ 17 → g_54 j = g j := fun j h11 h17 => by rw [eg_54, va_up_ne _ _ h11]; exact hun j h11 h17
            refine lv_goto (tgt := 35) hx hb dX9_number_115 (by decide) ?_
            exact ih ((i + 1), g_54) (by show n - (i + 1) < n - i; omega) ⟨(by omega), (by omega), (by omega), ((tde_go hlt ho).symm.trans hde), g_54h9, g_54h11, g_54h12, g_54h13, g_54h14, g_54h17, g_54h18, (fun k h1 h2 => ung_54 k h1 h2)⟩ _ _ _ (hP.sub (ws' := [(h0, .inr (11, mo g_54)), (a9, .inl (cT, 400, .inl f))]) [0, 1] rfl) (hD.sub (ws' := [(h0, .inr (11, mo g_54)), (a9, .inl (cT, 400, .inl f))]) [0, 1] (by decide) rfl) hS (lv_sub hl [0, 1, 2, 3, 4] rfl)
          · refine lv_aload_n hx hb dX9_number_74 rfl (lv_at hl 1 rfl) ?_
            refine lv_iconst (v := 1) hx hb dX9_number_75 (by decide) ?_
            refine lv_aload_n hx hb dX9_number_76 rfl (lv_at hl 1 rfl) ?_
            refine va_get (D := (dC, dI)) (ci := 11) (v := .int (nI i)) (C := RX9) (T := TX9) (N := 60) hx hb hts iRX9 hown hK hP 0 rfl rfl 11 (by decide) (hts (.fieldLink RX9 141 "RecordBenchModel" "at" "I") (by decide +kernel)) (fun _ h9 => h9) ((mo_get g2 (by decide)).trans (congrArg some h11)) dX9_number_77 ?_
            have hFc := va_free (wc := [(h0, .inr (11, mo g2))]) hD hS hA [0] rfl
            refine va_callv (va_runV (As := [.int 1, .int (nI i)]) (rest := []) ⟨hx, hb, hml, hown, hts⟩ (c_X9_fail l dC dI h0 g2 b0 (v14) h13 h14 1 (nI i) (by decide) H.size) (cwV 2 hts gp_X9_number_X9_fail_154 rfl rfl rfl (by decide +kernel) ⟨Nat.le_of_ble_eq_true rfl, Nat.le_of_ble_eq_true rfl⟩) ⟨Pr.blind _, va_recv hK hP (ci := 11) (q0 := 0) rfl rfl, fun U hU hW => ⟨rfl, Pr.at (hP.sub (ws' := [(h0, .inr (11, mo g2))]) [0] rfl) (hK.sub (tys' := []) [] rfl) (hD.sub (ws' := [(h0, .inr (11, mo g2))]) [0] (by decide) rfl) hN hZ RO.nil hS hFc hU hW⟩⟩ rfl rfl hl.1 rfl (lv_room (Nat.le_of_ble_eq_true rfl)) dX9_number_80 ⟨Nat.le_of_ble_eq_true rfl, Nat.le_of_ble_eq_true rfl⟩) hS (fun q _ h => hFc q h) hFc (fun u t H1 locs ht hvm hw_56 hB hz1 hk1 hS => ?_)
            obtain ⟨g1_57, b1_58⟩ := u
            obtain ⟨hP, hD, hK⟩ := Bq.join (wr := [(a9, .inl (cT, 400, .inl f))]) hB ht hvm hP hD [0] [1] rfl rfl (by decide) (by decide) hk1 hFc hK
            generalize H1 = H at hP hS ⊢
            have hP : va_P (dC, dI) vwCl [(a9, .inl (cT, 400, .inl f)), (h0, .inr (11, mo g1_57))] H := hP
            have hD : va_D A [(a9, .inl (cT, 400, .inl f)), (h0, .inr (11, mo g1_57))] := hD
            have hK : va_K (dC, dI) vwCl [(cT, .int)] s := hK
            try dsimp only at hw_56
            obtain ⟨k_59, k_60, k_61⟩ := hw_56
            have w_62 : g1_57 9 = .ref a9 := (k_61 9 (by decide) (by decide)).trans h9
            have w_63 : g1_57 11 = .int (nI i) := (k_61 11 (by decide) (by decide)).trans h11
            have w_64 : g1_57 12 = .int (nI n) := (k_61 12 (by decide) (by decide)).trans h12
            have w_65 : g1_57 17 = .int (nI (tsk f n j)) := (k_61 17 (by decide) (by decide)).trans h17
            have w_66 : g1_57 18 = .int x18 := (k_61 18 (by decide) (by decide)).trans h18
            have un_67 : ∀ j : Nat, j ≠ 11 → j ≠ 13 → j ≠ 14 → j ≠ 17 → g1_57 j = g j := fun j h11 h13 h14 h17 => (k_61 j h13 h14).trans (hun j h11 h17)
            refine lv_iconst (v := 0) hx hb dX9_number_83 (by decide) ?_
            have hP9 := hP.sub (ws' := [(h0, .inr (11, mo g1_57)), (a9, .inl (cT, 400, .inl f))]) [1, 0] rfl
            have hD9 := hD.sub (ws' := [(h0, .inr (11, mo g1_57)), (a9, .inl (cT, 400, .inl f))]) [1, 0] (by decide) rfl
            have hK9 := hK.sub (tys' := []) [] rfl
            exact W.iret (v := 0) hx hb hr (fun t ht hW => ⟨⟨0, (g1_57, i, b1_58, x18), rfl, ⟨Or.inr ⟨fun h => absurd h.2.2.1 (by have e2 : i - tsk f n j = 2 := (nI_eq (b := 2) (by omega) (by decide)).mp c_53; rw [← hde, tde_go hlt ho]; have := tde_ge f n (i + 1); omega), hi3, k_59⟩, w_63, k_60, w_65, w_66, (fun j h11 h13 h14 h17 h18 => un_67 j h11 h13 h14 h17)⟩, by rw [ht]; exact hP9, va_K.moved hW.alike hK9, hD9⟩, hS.F ht⟩) hS.2.2 dX9_number_84
        · refine W.eq (g2 := F0 m 58 ls [.int 0]) rfl ?_
          refine lv_if_eq (tgt := 118) hx hb dX9_number_58 (by decide) (fun c_68 => ?_) (fun c_68 => absurd (by decide) c_68)
          have htd : tde f n (tsk f n j) = i := hde.symm.trans (tde_no (fun h => ho h.2))
          refine lv_aload_n hx hb dX9_number_118 rfl (lv_at hl 1 rfl) ?_
          refine lv_aload_n hx hb dX9_number_119 rfl (lv_at hl 1 rfl) ?_
          refine va_get (D := (dC, dI)) (ci := 11) (v := .int (nI i)) (C := RX9) (T := TX9) (N := 60) hx hb hts iRX9 hown hK hP 0 rfl rfl 11 (by decide) (hts (.fieldLink RX9 141 "RecordBenchModel" "at" "I") (by decide +kernel)) (fun _ h9 => h9) ((mo_get g2 (by decide)).trans (congrArg some h11)) dX9_number_120 ?_
          refine va_put (D := (dC, dI)) (ci := 11) (v := .int (nI i)) (ty := .int) (C := RX9) (T := TX9) (N := 60) hx hb hts iRX9 tyX9 tyX9_ok nmX9 hown hK hP hD hS 0 rfl rfl 18 (by decide) (hts (.fieldLink RX9 162 "RecordBenchModel" "ended" "I") (by decide +kernel)) (fun _ h9 => h9) rfl (by decide +kernel) rfl rfl (by rw [mo_len]; decide) dX9_number_123 (fun H locs hP hD hS => ?_)
          obtain ⟨g_69, eg_69⟩ : ∃ y, y = va_up g2 18 (.int (nI i)) := ⟨_, rfl⟩
          have hP : va_P (dC, dI) vwCl [(h0, .inr (11, mo g_69)), (a9, .inl (cT, 400, .inl f))] H := by rw [eg_69, ← mo_set g2 (by decide)]; exact hP
          have hD : va_D A [(h0, .inr (11, mo g_69)), (a9, .inl (cT, 400, .inl f))] := by rw [eg_69, ← mo_set g2 (by decide)]; exact hD
          have g_69h9 : g_69 9 = .ref a9 := by rw [eg_69, va_up_ne _ _ (by decide)]; exact h9
          have g_69h11 : g_69 11 = .int (nI i) := by rw [eg_69, va_up_ne _ _ (by decide)]; exact h11
          have g_69h12 : g_69 12 = .int (nI n) := by rw [eg_69, va_up_ne _ _ (by decide)]; exact h12
          have g_69h13 : g_69 13 = .int b0 := by rw [eg_69, va_up_ne _ _ (by decide)]; exact h13
          have g_69h14 : g_69 14 = v14 := by rw [eg_69, va_up_ne _ _ (by decide)]; exact h14
          have g_69h17 : g_69 17 = .int (nI (tsk f n j)) := by rw [eg_69, va_up_ne _ _ (by decide)]; exact h17
          have g_69h18 : g_69 18 = .int (nI i) := by rw [eg_69, va_up_self]
          have ung_69 : ∀ j : Nat, j ≠ 11 → j ≠ 17 → j ≠ 18 → g_69 j = g j := fun j h11 h17 h18 => by rw [eg_69, va_up_ne _ _ h18]; exact hun j h11 h17
          refine lv_iload hx hb dX9_number_126 (lv_at hl 0 rfl) ?_
          refine lv_iload_n hx hb dX9_number_128 rfl (lv_at hl 3 rfl) ?_
          refine lv_icmp_lt (tgt := 138) hx hb dX9_number_129 (by decide) (fun c_70 => ?_) (fun c_70 => ?_)
          · refine lv_aload_n hx hb dX9_number_138 rfl (lv_at hl 1 rfl) ?_
            refine lv_iconst (v := 2) hx hb dX9_number_139 (by decide) ?_
            refine lv_aload_n hx hb dX9_number_140 rfl (lv_at hl 1 rfl) ?_
            refine va_get (D := (dC, dI)) (ci := 11) (v := .int (nI (tsk f n j))) (C := RX9) (T := TX9) (N := 60) hx hb hts iRX9 hown hK hP 0 rfl rfl 17 (by decide) (hts (.fieldLink RX9 147 "RecordBenchModel" "begun" "I") (by decide +kernel)) (fun _ h9 => h9) ((mo_get g_69 (by decide)).trans (congrArg some g_69h17)) dX9_number_141 ?_
            have hFc := va_free (wc := [(h0, .inr (11, mo g_69))]) hD hS hA [0] rfl
            refine va_callv (va_runV (As := [.int 2, .int (nI (tsk f n j))]) (rest := []) ⟨hx, hb, hml, hown, hts⟩ (c_X9_fail l dC dI h0 g_69 b0 (v14) g_69h13 g_69h14 2 (nI (tsk f n j)) (by decide) H.size) (cwV 2 hts gp_X9_number_X9_fail_154 rfl rfl rfl (by decide +kernel) ⟨Nat.le_of_ble_eq_true rfl, Nat.le_of_ble_eq_true rfl⟩) ⟨Pr.blind _, va_recv hK hP (ci := 11) (q0 := 0) rfl rfl, fun U hU hW => ⟨rfl, Pr.at (hP.sub (ws' := [(h0, .inr (11, mo g_69))]) [0] rfl) (hK.sub (tys' := []) [] rfl) (hD.sub (ws' := [(h0, .inr (11, mo g_69))]) [0] (by decide) rfl) hN hZ RO.nil hS hFc hU hW⟩⟩ rfl rfl hl.1 rfl (lv_room (Nat.le_of_ble_eq_true rfl)) dX9_number_144 ⟨Nat.le_of_ble_eq_true rfl, Nat.le_of_ble_eq_true rfl⟩) hS (fun q _ h => hFc q h) hFc (fun u t H1 locs ht hvm hw_72 hB hz1 hk1 hS => ?_)
            obtain ⟨g1_73, b1_74⟩ := u
            obtain ⟨hP, hD, hK⟩ := Bq.join (wr := [(a9, .inl (cT, 400, .inl f))]) hB ht hvm hP hD [0] [1] rfl rfl (by decide) (by decide) hk1 hFc hK
            generalize H1 = H at hP hS ⊢
            have hP : va_P (dC, dI) vwCl [(a9, .inl (cT, 400, .inl f)), (h0, .inr (11, mo g1_73))] H := hP
            have hD : va_D A [(a9, .inl (cT, 400, .inl f)), (h0, .inr (11, mo g1_73))] := hD
            have hK : va_K (dC, dI) vwCl [(cT, .int)] s := hK
            try dsimp only at hw_72
            obtain ⟨k_75, k_76, k_77⟩ := hw_72
            have w_78 : g1_73 9 = .ref a9 := (k_77 9 (by decide) (by decide)).trans g_69h9
            have w_79 : g1_73 11 = .int (nI i) := (k_77 11 (by decide) (by decide)).trans g_69h11
            have w_80 : g1_73 12 = .int (nI n) := (k_77 12 (by decide) (by decide)).trans g_69h12
            have w_81 : g1_73 17 = .int (nI (tsk f n j)) := (k_77 17 (by decide) (by decide)).trans g_69h17
            have w_82 : g1_73 18 = .int (nI i) := (k_77 18 (by decide) (by decide)).trans g_69h18
            have un_83 : ∀ j : Nat, j ≠ 11 → j ≠ 13 → j ≠ 14 → j ≠ 17 → j ≠ 18 → g1_73 j = g j := fun j h11 h13 h14 h17 h18 => (k_77 j h13 h14).trans (ung_69 j h11 h17 h18)
            refine lv_iload hx hb dX9_number_147 (lv_at hl 0 rfl) ?_
            have hP9 := hP.sub (ws' := [(h0, .inr (11, mo g1_73)), (a9, .inl (cT, 400, .inl f))]) [1, 0] rfl
            have hD9 := hD.sub (ws' := [(h0, .inr (11, mo g1_73)), (a9, .inl (cT, 400, .inl f))]) [1, 0] (by decide) rfl
            have hK9 := hK.sub (tys' := []) [] rfl
            exact W.iret (v := tnu f (tsk f n j) (i - tsk f n j)) hx hb hr (fun t ht hW => ⟨⟨tnu f (tsk f n j) (i - tsk f n j), (g1_73, i, b1_74, (nI i)), rfl, ⟨Or.inr ⟨fun h => h.2.2.2.1 (by rw [htd]; exact c_70), hi3, k_75⟩, w_79, k_76, w_81, w_82, (fun j h11 h13 h14 h17 h18 => un_83 j h11 h13 h14 h17 h18)⟩, by rw [ht]; exact hP9, va_K.moved hW.alike hK9, hD9⟩, hS.F ht⟩) hS.2.2 dX9_number_149
          · refine lv_iload hx hb dX9_number_132 (lv_at hl 0 rfl) ?_
            refine lv_iload_n hx hb dX9_number_134 rfl (lv_at hl 4 rfl) ?_
            refine lv_icmp_le (tgt := 147) hx hb dX9_number_135 (by decide) (fun c_84 => ?_) (fun c_84 => ?_)
            · refine lv_iload hx hb dX9_number_147 (lv_at hl 0 rfl) ?_
              have hP9 := hP.sub (ws' := [(h0, .inr (11, mo g_69)), (a9, .inl (cT, 400, .inl f))]) [0, 1] rfl
              have hD9 := hD.sub (ws' := [(h0, .inr (11, mo g_69)), (a9, .inl (cT, 400, .inl f))]) [0, 1] (by decide) rfl
              have hK9 := hK.sub (tys' := []) [] rfl
              exact W.iret (v := tnu f (tsk f n j) (i - tsk f n j)) hx hb hr (fun t ht hW => ⟨⟨tnu f (tsk f n j) (i - tsk f n j), (g_69, i, b0, (nI i)), rfl, ⟨Or.inl ⟨⟨hD0, hX0, by rw [htd]; omega, by rw [htd]; exact c_70, by rw [htd]; exact c_84⟩, isD_in hD0, htd.symm, rfl, by rw [htd], by rw [htd]⟩, g_69h11, g_69h13, g_69h17, g_69h18, (fun j h11 h13 h14 h17 h18 => ung_69 j h11 h17 h18)⟩, by rw [ht]; exact hP9, va_K.moved hW.alike hK9, hD9⟩, hS.F ht⟩) hS.2.2 dX9_number_149
            · refine lv_aload_n hx hb dX9_number_138 rfl (lv_at hl 1 rfl) ?_
              refine lv_iconst (v := 2) hx hb dX9_number_139 (by decide) ?_
              refine lv_aload_n hx hb dX9_number_140 rfl (lv_at hl 1 rfl) ?_
              refine va_get (D := (dC, dI)) (ci := 11) (v := .int (nI (tsk f n j))) (C := RX9) (T := TX9) (N := 60) hx hb hts iRX9 hown hK hP 0 rfl rfl 17 (by decide) (hts (.fieldLink RX9 147 "RecordBenchModel" "begun" "I") (by decide +kernel)) (fun _ h9 => h9) ((mo_get g_69 (by decide)).trans (congrArg some g_69h17)) dX9_number_141 ?_
              have hFc := va_free (wc := [(h0, .inr (11, mo g_69))]) hD hS hA [0] rfl
              refine va_callv (va_runV (As := [.int 2, .int (nI (tsk f n j))]) (rest := []) ⟨hx, hb, hml, hown, hts⟩ (c_X9_fail l dC dI h0 g_69 b0 (v14) g_69h13 g_69h14 2 (nI (tsk f n j)) (by decide) H.size) (cwV 2 hts gp_X9_number_X9_fail_154 rfl rfl rfl (by decide +kernel) ⟨Nat.le_of_ble_eq_true rfl, Nat.le_of_ble_eq_true rfl⟩) ⟨Pr.blind _, va_recv hK hP (ci := 11) (q0 := 0) rfl rfl, fun U hU hW => ⟨rfl, Pr.at (hP.sub (ws' := [(h0, .inr (11, mo g_69))]) [0] rfl) (hK.sub (tys' := []) [] rfl) (hD.sub (ws' := [(h0, .inr (11, mo g_69))]) [0] (by decide) rfl) hN hZ RO.nil hS hFc hU hW⟩⟩ rfl rfl hl.1 rfl (lv_room (Nat.le_of_ble_eq_true rfl)) dX9_number_144 ⟨Nat.le_of_ble_eq_true rfl, Nat.le_of_ble_eq_true rfl⟩) hS (fun q _ h => hFc q h) hFc (fun u t H1 locs ht hvm hw_86 hB hz1 hk1 hS => ?_)
              obtain ⟨g1_87, b1_88⟩ := u
              obtain ⟨hP, hD, hK⟩ := Bq.join (wr := [(a9, .inl (cT, 400, .inl f))]) hB ht hvm hP hD [0] [1] rfl rfl (by decide) (by decide) hk1 hFc hK
              generalize H1 = H at hP hS ⊢
              have hP : va_P (dC, dI) vwCl [(a9, .inl (cT, 400, .inl f)), (h0, .inr (11, mo g1_87))] H := hP
              have hD : va_D A [(a9, .inl (cT, 400, .inl f)), (h0, .inr (11, mo g1_87))] := hD
              have hK : va_K (dC, dI) vwCl [(cT, .int)] s := hK
              try dsimp only at hw_86
              obtain ⟨k_89, k_90, k_91⟩ := hw_86
              have w_92 : g1_87 9 = .ref a9 := (k_91 9 (by decide) (by decide)).trans g_69h9
              have w_93 : g1_87 11 = .int (nI i) := (k_91 11 (by decide) (by decide)).trans g_69h11
              have w_94 : g1_87 12 = .int (nI n) := (k_91 12 (by decide) (by decide)).trans g_69h12
              have w_95 : g1_87 17 = .int (nI (tsk f n j)) := (k_91 17 (by decide) (by decide)).trans g_69h17
              have w_96 : g1_87 18 = .int (nI i) := (k_91 18 (by decide) (by decide)).trans g_69h18
              have un_97 : ∀ j : Nat, j ≠ 11 → j ≠ 13 → j ≠ 14 → j ≠ 17 → j ≠ 18 → g1_87 j = g j := fun j h11 h13 h14 h17 h18 => (k_91 j h13 h14).trans (ung_69 j h11 h17 h18)
              refine lv_iload hx hb dX9_number_147 (lv_at hl 0 rfl) ?_
              have hP9 := hP.sub (ws' := [(h0, .inr (11, mo g1_87)), (a9, .inl (cT, 400, .inl f))]) [1, 0] rfl
              have hD9 := hD.sub (ws' := [(h0, .inr (11, mo g1_87)), (a9, .inl (cT, 400, .inl f))]) [1, 0] (by decide) rfl
              have hK9 := hK.sub (tys' := []) [] rfl
              exact W.iret (v := tnu f (tsk f n j) (i - tsk f n j)) hx hb hr (fun t ht hW => ⟨⟨tnu f (tsk f n j) (i - tsk f n j), (g1_87, i, b1_88, (nI i)), rfl, ⟨Or.inr ⟨fun h => c_84 (by have := h.2.2.2.2; rw [htd] at this; exact this), hi3, k_89⟩, w_93, k_90, w_95, w_96, (fun j h11 h13 h14 h17 h18 => un_97 j h11 h13 h14 h17 h18)⟩, by rw [ht]; exact hP9, va_K.moved hW.alike hK9, hD9⟩, hS.F ht⟩) hS.2.2 dX9_number_149
    · refine lv_aload_n hx hb dX9_number_21 rfl (lv_at hl 0 rfl) ?_
      refine lv_iconst (v := 1) hx hb dX9_number_22 (by decide) ?_
      refine lv_aload_n hx hb dX9_number_23 rfl (lv_at hl 0 rfl) ?_
      refine va_get (D := (dC, dI)) (ci := 11) (v := .int (nI (tsk f n j))) (C := RX9) (T := TX9) (N := 60) hx hb hts iRX9 hown hK hP 0 rfl rfl 11 (by decide) (hts (.fieldLink RX9 141 "RecordBenchModel" "at" "I") (by decide +kernel)) (fun _ h9 => h9) ((mo_get g1_3 (by decide)).trans (congrArg some k_5)) dX9_number_24 ?_
      have hFc := va_free (wc := [(h0, .inr (11, mo g1_3))]) hD hS hA [0] rfl
      refine va_callv (va_runV (As := [.int 1, .int (nI (tsk f n j))]) (rest := []) ⟨hx, hb, hml, hown, hts⟩ (c_X9_fail l dC dI h0 g1_3 b0 (v14) w_10 w_11 1 (nI (tsk f n j)) (by decide) H.size) (cwV 2 hts gp_X9_number_X9_fail_154 rfl rfl rfl (by decide +kernel) ⟨Nat.le_of_ble_eq_true rfl, Nat.le_of_ble_eq_true rfl⟩) ⟨Pr.blind _, va_recv hK hP (ci := 11) (q0 := 0) rfl rfl, fun U hU hW => ⟨rfl, Pr.at (hP.sub (ws' := [(h0, .inr (11, mo g1_3))]) [0] rfl) (hK.sub (tys' := []) [] rfl) (hD.sub (ws' := [(h0, .inr (11, mo g1_3))]) [0] (by decide) rfl) hN hZ RO.nil hS hFc hU hW⟩⟩ rfl rfl hl.1 rfl (lv_room (Nat.le_of_ble_eq_true rfl)) dX9_number_27 ⟨Nat.le_of_ble_eq_true rfl, Nat.le_of_ble_eq_true rfl⟩) hS (fun q _ h => hFc q h) hFc (fun u t H1 locs ht hvm hw_99 hB hz1 hk1 hS => ?_)
      obtain ⟨g1_100, b1_101⟩ := u
      obtain ⟨hP, hD, hK⟩ := Bq.join (wr := [(a9, .inl (cT, 400, .inl f))]) hB ht hvm hP hD [0] [1] rfl rfl (by decide) (by decide) hk1 hFc hK
      generalize H1 = H at hP hS ⊢
      have hP : va_P (dC, dI) vwCl [(a9, .inl (cT, 400, .inl f)), (h0, .inr (11, mo g1_100))] H := hP
      have hD : va_D A [(a9, .inl (cT, 400, .inl f)), (h0, .inr (11, mo g1_100))] := hD
      have hK : va_K (dC, dI) vwCl [(cT, .int)] s := hK
      try dsimp only at hw_99
      obtain ⟨k_102, k_103, k_104⟩ := hw_99
      have w_105 : g1_100 11 = .int (nI (tsk f n j)) := (k_104 11 (by decide) (by decide)).trans k_5
      have w_106 : g1_100 17 = .int (nI (tsk f n j)) := (k_104 17 (by decide) (by decide)).trans k_6
      have w_107 : g1_100 9 = .ref a9 := (k_104 9 (by decide) (by decide)).trans w_8
      have w_108 : g1_100 12 = .int (nI n) := (k_104 12 (by decide) (by decide)).trans w_9
      have w_109 : g1_100 18 = .int x18 := (k_104 18 (by decide) (by decide)).trans w_12
      have un_110 : ∀ j : Nat, j ≠ 11 → j ≠ 13 → j ≠ 14 → j ≠ 17 → g1_100 j = g j := fun j h11 h13 h14 h17 => (k_104 j h13 h14).trans (un_13 j h11 h17)
      refine lv_iconst (v := 0) hx hb dX9_number_30 (by decide) ?_
      have hP9 := hP.sub (ws' := [(h0, .inr (11, mo g1_100)), (a9, .inl (cT, 400, .inl f))]) [1, 0] rfl
      have hD9 := hD.sub (ws' := [(h0, .inr (11, mo g1_100)), (a9, .inl (cT, 400, .inl f))]) [1, 0] (by decide) rfl
      have hK9 := hK.sub (tys' := []) [] rfl
      exact W.iret (v := 0) hx hb hr (fun t ht hW => ⟨⟨0, (g1_100, (tsk f n j), b1_101, x18), rfl, ⟨Or.inr ⟨fun h => h.2.1 c_18.symm, hq2, k_102⟩, w_105, k_103, w_106, w_109, (fun j h11 h13 h14 h17 h18 => un_110 j h11 h13 h14 h17)⟩, by rw [ht]; exact hP9, va_K.moved hW.alike hK9, hD9⟩, hS.F ht⟩) hS.2.2 dX9_number_31
  · refine W.eq (g2 := F0 m 7 ls [.int 0]) rfl ?_
    refine lv_if_eq (tgt := 21) hx hb dX9_number_7 (by decide) (fun c_111 => ?_) (fun c_111 => absurd (by decide) c_111)
    refine lv_aload_n hx hb dX9_number_21 rfl (lv_at hl 0 rfl) ?_
    refine lv_iconst (v := 1) hx hb dX9_number_22 (by decide) ?_
    refine lv_aload_n hx hb dX9_number_23 rfl (lv_at hl 0 rfl) ?_
    refine va_get (D := (dC, dI)) (ci := 11) (v := .int (nI (tsk f n j))) (C := RX9) (T := TX9) (N := 60) hx hb hts iRX9 hown hK hP 0 rfl rfl 11 (by decide) (hts (.fieldLink RX9 141 "RecordBenchModel" "at" "I") (by decide +kernel)) (fun _ h9 => h9) ((mo_get g1_3 (by decide)).trans (congrArg some k_5)) dX9_number_24 ?_
    have hFc := va_free (wc := [(h0, .inr (11, mo g1_3))]) hD hS hA [0] rfl
    refine va_callv (va_runV (As := [.int 1, .int (nI (tsk f n j))]) (rest := []) ⟨hx, hb, hml, hown, hts⟩ (c_X9_fail l dC dI h0 g1_3 b0 (v14) w_10 w_11 1 (nI (tsk f n j)) (by decide) H.size) (cwV 2 hts gp_X9_number_X9_fail_154 rfl rfl rfl (by decide +kernel) ⟨Nat.le_of_ble_eq_true rfl, Nat.le_of_ble_eq_true rfl⟩) ⟨Pr.blind _, va_recv hK hP (ci := 11) (q0 := 0) rfl rfl, fun U hU hW => ⟨rfl, Pr.at (hP.sub (ws' := [(h0, .inr (11, mo g1_3))]) [0] rfl) (hK.sub (tys' := []) [] rfl) (hD.sub (ws' := [(h0, .inr (11, mo g1_3))]) [0] (by decide) rfl) hN hZ RO.nil hS hFc hU hW⟩⟩ rfl rfl hl.1 rfl (lv_room (Nat.le_of_ble_eq_true rfl)) dX9_number_27 ⟨Nat.le_of_ble_eq_true rfl, Nat.le_of_ble_eq_true rfl⟩) hS (fun q _ h => hFc q h) hFc (fun u t H1 locs ht hvm hw_113 hB hz1 hk1 hS => ?_)
    obtain ⟨g1_114, b1_115⟩ := u
    obtain ⟨hP, hD, hK⟩ := Bq.join (wr := [(a9, .inl (cT, 400, .inl f))]) hB ht hvm hP hD [0] [1] rfl rfl (by decide) (by decide) hk1 hFc hK
    generalize H1 = H at hP hS ⊢
    have hP : va_P (dC, dI) vwCl [(a9, .inl (cT, 400, .inl f)), (h0, .inr (11, mo g1_114))] H := hP
    have hD : va_D A [(a9, .inl (cT, 400, .inl f)), (h0, .inr (11, mo g1_114))] := hD
    have hK : va_K (dC, dI) vwCl [(cT, .int)] s := hK
    try dsimp only at hw_113
    obtain ⟨k_116, k_117, k_118⟩ := hw_113
    have w_119 : g1_114 11 = .int (nI (tsk f n j)) := (k_118 11 (by decide) (by decide)).trans k_5
    have w_120 : g1_114 17 = .int (nI (tsk f n j)) := (k_118 17 (by decide) (by decide)).trans k_6
    have w_121 : g1_114 9 = .ref a9 := (k_118 9 (by decide) (by decide)).trans w_8
    have w_122 : g1_114 12 = .int (nI n) := (k_118 12 (by decide) (by decide)).trans w_9
    have w_123 : g1_114 18 = .int x18 := (k_118 18 (by decide) (by decide)).trans w_12
    have un_124 : ∀ j : Nat, j ≠ 11 → j ≠ 13 → j ≠ 14 → j ≠ 17 → g1_114 j = g j := fun j h11 h13 h14 h17 => (k_118 j h13 h14).trans (un_13 j h11 h17)
    refine lv_iconst (v := 0) hx hb dX9_number_30 (by decide) ?_
    have hP9 := hP.sub (ws' := [(h0, .inr (11, mo g1_114)), (a9, .inl (cT, 400, .inl f))]) [1, 0] rfl
    have hD9 := hD.sub (ws' := [(h0, .inr (11, mo g1_114)), (a9, .inl (cT, 400, .inl f))]) [1, 0] (by decide) rfl
    have hK9 := hK.sub (tys' := []) [] rfl
    exact W.iret (v := 0) hx hb hr (fun t ht hW => ⟨⟨0, (g1_114, (tsk f n j), b1_115, x18), rfl, ⟨Or.inr ⟨fun h => ho h.1, hq2, k_116⟩, w_119, k_117, w_120, w_123, (fun j h11 h13 h14 h17 h18 => un_124 j h11 h13 h14 h17)⟩, by rw [ht]; exact hP9, va_K.moved hW.alike hK9, hD9⟩, hS.F ht⟩) hS.2.2 dX9_number_31
