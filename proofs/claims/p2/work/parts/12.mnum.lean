theorem dX9_number_0 : decode cX9_number 0 = .ok (.aload_n 0, 1) := by decide +kernel
theorem dX9_number_1 : decode cX9_number 1 = .ok (.invokevirtual 150, 3) := by decide +kernel
theorem dX9_number_10 : decode cX9_number 10 = .ok (.aload_n 0, 1) := by decide +kernel
theorem dX9_number_100 : decode cX9_number 100 = .ok (.bipush 48, 2) := by decide +kernel
theorem dX9_number_102 : decode cX9_number 102 = .ok (.isub, 1) := by decide +kernel
theorem dX9_number_103 : decode cX9_number 103 = .ok (.istore 4, 2) := by decide +kernel
theorem dX9_number_105 : decode cX9_number 105 = .ok (.aload_n 0, 1) := by decide +kernel
theorem dX9_number_106 : decode cX9_number 106 = .ok (.dup, 1) := by decide +kernel
theorem dX9_number_107 : decode cX9_number 107 = .ok (.getfield 141, 3) := by decide +kernel
theorem dX9_number_11 : decode cX9_number 11 = .ok (.getfield 141, 3) := by decide +kernel
theorem dX9_number_110 : decode cX9_number 110 = .ok (.iconst 1, 1) := by decide +kernel
theorem dX9_number_111 : decode cX9_number 111 = .ok (.iadd, 1) := by decide +kernel
theorem dX9_number_112 : decode cX9_number 112 = .ok (.putfield 141, 3) := by decide +kernel
theorem dX9_number_115 : decode cX9_number 115 = .ok (.goto (-80), 3) := by decide +kernel
theorem dX9_number_118 : decode cX9_number 118 = .ok (.aload_n 0, 1) := by decide +kernel
theorem dX9_number_119 : decode cX9_number 119 = .ok (.aload_n 0, 1) := by decide +kernel
theorem dX9_number_120 : decode cX9_number 120 = .ok (.getfield 141, 3) := by decide +kernel
theorem dX9_number_123 : decode cX9_number 123 = .ok (.putfield 162, 3) := by decide +kernel
theorem dX9_number_126 : decode cX9_number 126 = .ok (.iload 4, 2) := by decide +kernel
theorem dX9_number_128 : decode cX9_number 128 = .ok (.iload_n 2, 1) := by decide +kernel
theorem dX9_number_129 : decode cX9_number 129 = .ok (.if_icmp .lt 9, 3) := by decide +kernel
theorem dX9_number_132 : decode cX9_number 132 = .ok (.iload 4, 2) := by decide +kernel
theorem dX9_number_134 : decode cX9_number 134 = .ok (.iload_n 3, 1) := by decide +kernel
theorem dX9_number_135 : decode cX9_number 135 = .ok (.if_icmp .le 12, 3) := by decide +kernel
theorem dX9_number_138 : decode cX9_number 138 = .ok (.aload_n 0, 1) := by decide +kernel
theorem dX9_number_139 : decode cX9_number 139 = .ok (.iconst 2, 1) := by decide +kernel
theorem dX9_number_14 : decode cX9_number 14 = .ok (.aload_n 0, 1) := by decide +kernel
theorem dX9_number_140 : decode cX9_number 140 = .ok (.aload_n 0, 1) := by decide +kernel
theorem dX9_number_141 : decode cX9_number 141 = .ok (.getfield 147, 3) := by decide +kernel
theorem dX9_number_144 : decode cX9_number 144 = .ok (.invokevirtual 154, 3) := by decide +kernel
theorem dX9_number_147 : decode cX9_number 147 = .ok (.iload 4, 2) := by decide +kernel
theorem dX9_number_149 : decode cX9_number 149 = .ok (.ireturn, 1) := by decide +kernel
theorem dX9_number_15 : decode cX9_number 15 = .ok (.getfield 162, 3) := by decide +kernel
theorem dX9_number_18 : decode cX9_number 18 = .ok (.if_icmp .ne 14, 3) := by decide +kernel
theorem dX9_number_21 : decode cX9_number 21 = .ok (.aload_n 0, 1) := by decide +kernel
theorem dX9_number_22 : decode cX9_number 22 = .ok (.iconst 1, 1) := by decide +kernel
theorem dX9_number_23 : decode cX9_number 23 = .ok (.aload_n 0, 1) := by decide +kernel
theorem dX9_number_24 : decode cX9_number 24 = .ok (.getfield 141, 3) := by decide +kernel
theorem dX9_number_27 : decode cX9_number 27 = .ok (.invokevirtual 154, 3) := by decide +kernel
theorem dX9_number_30 : decode cX9_number 30 = .ok (.iconst 0, 1) := by decide +kernel
theorem dX9_number_31 : decode cX9_number 31 = .ok (.ireturn, 1) := by decide +kernel
theorem dX9_number_32 : decode cX9_number 32 = .ok (.iconst 0, 1) := by decide +kernel
theorem dX9_number_33 : decode cX9_number 33 = .ok (.istore 4, 2) := by decide +kernel
theorem dX9_number_35 : decode cX9_number 35 = .ok (.aload_n 0, 1) := by decide +kernel
theorem dX9_number_36 : decode cX9_number 36 = .ok (.getfield 141, 3) := by decide +kernel
theorem dX9_number_39 : decode cX9_number 39 = .ok (.aload_n 0, 1) := by decide +kernel
theorem dX9_number_4 : decode cX9_number 4 = .ok (.invokestatic 158, 3) := by decide +kernel
theorem dX9_number_40 : decode cX9_number 40 = .ok (.getfield 144, 3) := by decide +kernel
theorem dX9_number_43 : decode cX9_number 43 = .ok (.if_icmp .ge 75, 3) := by decide +kernel
theorem dX9_number_46 : decode cX9_number 46 = .ok (.aload_n 0, 1) := by decide +kernel
theorem dX9_number_47 : decode cX9_number 47 = .ok (.getfield 39, 3) := by decide +kernel
theorem dX9_number_50 : decode cX9_number 50 = .ok (.aload_n 0, 1) := by decide +kernel
theorem dX9_number_51 : decode cX9_number 51 = .ok (.getfield 141, 3) := by decide +kernel
theorem dX9_number_54 : decode cX9_number 54 = .ok (.iaload, 1) := by decide +kernel
theorem dX9_number_55 : decode cX9_number 55 = .ok (.invokestatic 158, 3) := by decide +kernel
theorem dX9_number_58 : decode cX9_number 58 = .ok (.ifCond .eq 60, 3) := by decide +kernel
theorem dX9_number_61 : decode cX9_number 61 = .ok (.aload_n 0, 1) := by decide +kernel
theorem dX9_number_62 : decode cX9_number 62 = .ok (.getfield 141, 3) := by decide +kernel
theorem dX9_number_65 : decode cX9_number 65 = .ok (.aload_n 0, 1) := by decide +kernel
theorem dX9_number_66 : decode cX9_number 66 = .ok (.getfield 147, 3) := by decide +kernel
theorem dX9_number_69 : decode cX9_number 69 = .ok (.isub, 1) := by decide +kernel
theorem dX9_number_7 : decode cX9_number 7 = .ok (.ifCond .eq 14, 3) := by decide +kernel
theorem dX9_number_70 : decode cX9_number 70 = .ok (.iload_n 1, 1) := by decide +kernel
theorem dX9_number_71 : decode cX9_number 71 = .ok (.if_icmp .ne 14, 3) := by decide +kernel
theorem dX9_number_74 : decode cX9_number 74 = .ok (.aload_n 0, 1) := by decide +kernel
theorem dX9_number_75 : decode cX9_number 75 = .ok (.iconst 1, 1) := by decide +kernel
theorem dX9_number_76 : decode cX9_number 76 = .ok (.aload_n 0, 1) := by decide +kernel
theorem dX9_number_77 : decode cX9_number 77 = .ok (.getfield 141, 3) := by decide +kernel
theorem dX9_number_80 : decode cX9_number 80 = .ok (.invokevirtual 154, 3) := by decide +kernel
theorem dX9_number_83 : decode cX9_number 83 = .ok (.iconst 0, 1) := by decide +kernel
theorem dX9_number_84 : decode cX9_number 84 = .ok (.ireturn, 1) := by decide +kernel
theorem dX9_number_85 : decode cX9_number 85 = .ok (.bipush 10, 2) := by decide +kernel
theorem dX9_number_87 : decode cX9_number 87 = .ok (.iload 4, 2) := by decide +kernel
theorem dX9_number_89 : decode cX9_number 89 = .ok (.imul, 1) := by decide +kernel
theorem dX9_number_90 : decode cX9_number 90 = .ok (.aload_n 0, 1) := by decide +kernel
theorem dX9_number_91 : decode cX9_number 91 = .ok (.getfield 39, 3) := by decide +kernel
theorem dX9_number_94 : decode cX9_number 94 = .ok (.aload_n 0, 1) := by decide +kernel
theorem dX9_number_95 : decode cX9_number 95 = .ok (.getfield 141, 3) := by decide +kernel
theorem dX9_number_98 : decode cX9_number 98 = .ok (.iaload, 1) := by decide +kernel
theorem dX9_number_99 : decode cX9_number 99 = .ok (.iadd, 1) := by decide +kernel
def wp_X9_number : List Cond := .code yX9_number cX9_number 5 (some .int) :: ([.methodLink RX9 150 yX9_next, .instanceMethod yX9_next, .selects RX9 yX9_next yX9_next, .initialized RX9, .methodLink RX9 158 yX9_isDigit, .static yX9_isDigit, .fieldLink RX9 141 "RecordBenchModel" "at" "I", .fieldLink RX9 162 "RecordBenchModel" "ended" "I", .fieldLink RX9 144 "RecordBenchModel" "size" "I", .fieldLink RX9 147 "RecordBenchModel" "begun" "I", .methodLink RX9 154 yX9_fail, .instanceMethod yX9_fail, .selects RX9 yX9_fail yX9_fail, .fieldLink RX9 39 "RecordBenchModel" "tape" "[I", .code yX9_next cX9_next 1 (some .int), .code yX9_isDigit cX9_isDigit 1 (some .boolean), .code yX9_fail cX9_fail 3 none, .fieldLink RX9 135 "RecordBenchModel" "bad" "I", .fieldLink RX9 138 "RecordBenchModel" "badPlace" "I"] ++ wsX90)
set_option maxRecDepth 20000 in
theorem gp_X9_number_X9_next_150 : GoodIn wp_X9_number (wsV RX9 150 RX9 yX9_next wp_X9_next) := goodIn_p _ [15] rfl (by decide +kernel)
set_option maxRecDepth 20000 in
theorem gp_X9_number_X9_isDigit_158 : GoodIn wp_X9_number (wsS RX9 158 yX9_isDigit wp_X9_isDigit) := goodIn_p _ [16] rfl (by decide +kernel)
set_option maxRecDepth 20000 in
theorem gp_X9_number_X9_fail_154 : GoodIn wp_X9_number (wsV RX9 154 RX9 yX9_fail wp_X9_fail) := goodIn_p _ [17] rfl (by decide +kernel)
set_option maxHeartbeats 4000000 in
set_option maxRecDepth 100000 in
theorem c_X9_number (l : Launch) (dC : Nat → ClassId) (dI : Nat → Nat → Nat) (h0 : Nat) (g : Nat → Value) (a9 : Nat) (cT : ClassId) (f : Nat → Int32) (j : Nat) (n : Nat) (b0 : Int32) (x18 : Int32) (fh9 : g 9 = .ref a9) (fh11 : g 11 = .int (nI j)) (fh12 : g 12 = .int (nI n)) (fh13 : g 13 = .int b0) (fh18 : g 18 = .int x18) (hj : j ≤ n) (hn : n ≤ 400) (sz : Nat) : Met l yX9_number wp_X9_number ({ frames := 1, cells := 0, slots := 0, locals := 26 }) (va_Pc [.ref h0, .int 2, .int 1, .int 30] (Pr (dC, dI) [(cT, .int)] [] [(h0, .inr (11, mo g)), (a9, .inl (cT, 400, .inl f))] sz)) (va_Qi (fun r : Int32 => (fun (u : (Nat → Value) × Nat × Int32 × Int32) => match u with | (g1, j1, b1, x1) => (((isD (tat f n (tsk f n j)) ∧ x18 ≠ nI (tsk f n j) ∧ tde f n (tsk f n j) - tsk f n j ≤ 2 ∧ ¬ tnu f (tsk f n j) (tde f n (tsk f n j) - tsk f n j) < 1 ∧ tnu f (tsk f n j) (tde f n (tsk f n j) - tsk f n j) ≤ 30) ∧ tsk f n j < n ∧ j1 = tde f n (tsk f n j) ∧ b0 = b1 ∧ r = tnu f (tsk f n j) (tde f n (tsk f n j) - tsk f n j) ∧ x1 = nI (tde f n (tsk f n j))) ∨ (¬ (isD (tat f n (tsk f n j)) ∧ x18 ≠ nI (tsk f n j) ∧ tde f n (tsk f n j) - tsk f n j ≤ 2 ∧ ¬ tnu f (tsk f n j) (tde f n (tsk f n j) - tsk f n j) < 1 ∧ tnu f (tsk f n j) (tde f n (tsk f n j) - tsk f n j) ≤ 30) ∧ j1 ≤ n ∧ b1 ≠ 0)) ∧ (g1 11 = .int (nI j1)) ∧ (g1 13 = .int b1) ∧ (g1 17 = .int (nI (tsk f n j))) ∧ (g1 18 = .int x1) ∧ (∀ j : Nat, j ≠ 11 → j ≠ 13 → j ≠ 14 → j ≠ 17 → j ≠ 18 → g1 j = g j))) (Bq (dC, dI) (fun (u : (Nat → Value) × Nat × Int32 × Int32) => match u with | (g1, j1, b1, x1) => [(h0, .inr (11, mo g1)), (a9, .inl (cT, 400, .inl f))]) (fun (u : (Nat → Value) × Nat × Int32 × Int32) => match u with | (g1, j1, b1, x1) => []) (va_A [(h0, .inr (11, mo g)), (a9, .inl (cT, 400, .inl f))] sz)) (va_A [(h0, .inr (11, mo g)), (a9, .inl (cT, 400, .inl f))] sz)) 0 0 (va_A [(h0, .inr (11, mo g)), (a9, .inl (cT, 400, .inl f))] sz) := by
  refine Met.ofW (cc := cX9_number) (maxL := 5) (ret := (some .int)) (by decide) rfl ?_
  intro p e s m args below meth c s₁ B hml hv
  obtain ⟨rfl, hsz, hP, hK, hD0, hN, hZ, hR⟩ := hv
  have hx := B.exec
  have hb := B.bytes
  have hr := B.returns
  have hts := atoms_spec (ws := wp_X9_number) B.pre
  have hown : s.vm.findClass RX9 = some m.cls := findClass_of_methodNamed B.named
  have hlocks := B.notSynchronized
  have iRX9 : ∀ w ∈ u_ws RX9 TX9 60, w ∈ wp_X9_number := by decide +kernel
  subst hsz
  have hD := hD0.self (sz := s.heap.size)
  generalize hAe : va_A [(h0, .inr (11, mo g)), (a9, .inl (cT, 400, .inl f))] s.heap.size = A at hD hZ hR ⊢
  have hA : ∀ q : Nat, s.heap.size ≤ q → A q := fun q h => by rw [← hAe]; exact Or.inr h
  have hS : va_S A s.heap s.heap [] := va_S.rf
  have hP : va_P (dC, dI) vwCl [(h0, .inr (11, mo g)), (a9, .inl (cT, 400, .inl f))] s.heap := hP
  have hl := lv_entry ([.ref h0, .int 2, .int 1, .int 30]) (n := 5) (Nat.le_of_ble_eq_true rfl)
  rw [lg_entry_eq]
  generalize (lg_sl ([.ref h0, .int 2, .int 1, .int 30]) ++ List.replicate (5 - (lg_sl ([.ref h0, .int 2, .int 1, .int 30])).length) Slot.unset).toArray = ls at hl ⊢
  have hl : lv_has ls 5 [(0, .ref h0), (1, .int 2), (2, .int 1), (3, .int 30)] := hl
  have hq1 := tsk_ge f n j
  have hq2 := tsk_le (f := f) (n := n) hj
  refine lv_aload_n hx hb dX9_number_0 rfl (lv_at hl 0 rfl) ?_
  have hFc := va_free (wc := [(h0, .inr (11, mo g)), (a9, .inl (cT, 400, .inl f))]) hD hS hA [0, 1] rfl
  refine va_calli (va_runV (As := []) (rest := []) ⟨hx, hb, hml, hown, hts⟩ (c_X9_next l dC dI h0 g a9 cT f j n fh9 fh11 fh12 (by omega) (by omega) s.heap.size) (cwV 0 hts gp_X9_number_X9_next_150 rfl rfl rfl (by decide +kernel) ⟨Nat.le_of_ble_eq_true rfl, Nat.le_of_ble_eq_true rfl⟩) ⟨Pr.blind _, va_recv hK hP (ci := 11) (q0 := 0) rfl rfl, fun U hU hW => ⟨rfl, Pr.at (hP.sub (ws' := [(h0, .inr (11, mo g)), (a9, .inl (cT, 400, .inl f))]) [0, 1] rfl) (hK.sub (tys' := [(cT, .int)]) [0] rfl) (hD.sub (ws' := [(h0, .inr (11, mo g)), (a9, .inl (cT, 400, .inl f))]) [0, 1] (by decide) rfl) hN hZ RO.nil hS hFc hU hW⟩⟩ rfl rfl hl.1 rfl (lv_room (Nat.le_of_ble_eq_true rfl)) dX9_number_1 ⟨Nat.le_of_ble_eq_true rfl, Nat.le_of_ble_eq_true rfl⟩) hS (fun q _ h => hFc q h) hFc (fun r_1 u t H1 locs ht hvm hw_2 hB hz1 hk1 hS => ?_)
  obtain ⟨g1_3, rfl⟩ : ∃ z, z = u := ⟨_, rfl⟩
  obtain ⟨hP, hD, hK⟩ := Bq.join (wr := []) hB ht hvm hP hD [0, 1] [] rfl rfl (by decide) (by decide) hk1 hFc hK
  generalize H1 = H at hP hS ⊢
  have hP : va_P (dC, dI) vwCl [(h0, .inr (11, mo g1_3)), (a9, .inl (cT, 400, .inl f))] H := hP
  have hD : va_D A [(h0, .inr (11, mo g1_3)), (a9, .inl (cT, 400, .inl f))] := hD
  have hK : va_K (dC, dI) vwCl [(cT, .int)] s := hK
  try dsimp only at hw_2
  obtain ⟨k_4, k_5, k_6, k_7⟩ := hw_2
  have w_8 : g1_3 9 = .ref a9 := (k_7 9 (by decide) (by decide)).trans fh9
  have w_9 : g1_3 12 = .int (nI n) := (k_7 12 (by decide) (by decide)).trans fh12
  have w_10 : g1_3 13 = .int b0 := (k_7 13 (by decide) (by decide)).trans fh13
  have w_11 : g1_3 18 = .int x18 := (k_7 18 (by decide) (by decide)).trans fh18
  have un_12 : ∀ j : Nat, j ≠ 11 → j ≠ 17 → g1_3 j = g j := fun j h11 h17 => (k_7 j h11 h17)
  refine W_toi (y := tat f n (tsk f n j)) k_4 ?_
  have hFc := va_free (wc := []) hD hS hA [] rfl
  refine va_calli (va_runS (As := [.int (tat f n (tsk f n j))]) (rest := []) ⟨hx, hb, hml, hown, hts⟩ (c_X9_isDigit l dC dI (tat f n (tsk f n j)) H.size) (cwS 1 hts gp_X9_number_X9_isDigit_158 rfl rfl rfl (by decide +kernel) ⟨Nat.le_of_ble_eq_true rfl, Nat.le_of_ble_eq_true rfl⟩) ⟨Pr.blind _, fun U hU hW => ⟨rfl, Pr.at (hP.sub (ws' := []) [] rfl) (hK.sub (tys' := []) [] rfl) (hD.sub (ws' := []) [] (by decide) rfl) hN hZ RO.nil hS hFc hU hW⟩⟩ rfl rfl hl.1 rfl (lv_room (Nat.le_of_ble_eq_true rfl)) dX9_number_4 ⟨Nat.le_of_ble_eq_true rfl, Nat.le_of_ble_eq_true rfl⟩) hS (fun q _ h => hFc q h) hFc (fun r_13 u t H1 locs ht hvm hw_14 hB hz1 hk1 hS => ?_)
  obtain ⟨hP, hD, hK⟩ := Bq.join (wr := [(h0, .inr (11, mo g1_3)), (a9, .inl (cT, 400, .inl f))]) hB ht hvm hP hD [] [0, 1] rfl rfl (by decide) (by decide) hk1 hFc hK
  generalize H1 = H at hP hS ⊢
  have hP : va_P (dC, dI) vwCl [(h0, .inr (11, mo g1_3)), (a9, .inl (cT, 400, .inl f))] H := hP
  have hD : va_D A [(h0, .inr (11, mo g1_3)), (a9, .inl (cT, 400, .inl f))] := hD
  have hK : va_K (dC, dI) vwCl [(cT, .int)] s := hK
  try dsimp only at hw_14
  have k_15 := hw_14
  rcases k_15 with ⟨ho, rfl⟩ | ⟨ho, rfl⟩
  · refine W.eq (g2 := F0 m 7 ls [.int 1]) rfl ?_
    refine lv_if_eq (tgt := 21) hx hb dX9_number_7 (by decide) (fun c_16 => absurd c_16 (by decide)) (fun c_16 => ?_)
    refine lv_aload_n hx hb dX9_number_10 rfl (lv_at hl 0 rfl) ?_
    refine va_get (D := (dC, dI)) (ci := 11) (v := .int (nI (tsk f n j))) (C := RX9) (T := TX9) (N := 60) hx hb hts iRX9 hown hK hP 0 rfl rfl 11 (by decide) (hts (.fieldLink RX9 141 "RecordBenchModel" "at" "I") (by decide +kernel)) (fun _ h9 => h9) ((mo_get g1_3 (by decide)).trans (congrArg some k_5)) dX9_number_11 ?_
    refine lv_aload_n hx hb dX9_number_14 rfl (lv_at hl 0 rfl) ?_
    refine va_get (D := (dC, dI)) (ci := 11) (v := .int x18) (C := RX9) (T := TX9) (N := 60) hx hb hts iRX9 hown hK hP 0 rfl rfl 18 (by decide) (hts (.fieldLink RX9 162 "RecordBenchModel" "ended" "I") (by decide +kernel)) (fun _ h9 => h9) ((mo_get g1_3 (by decide)).trans (congrArg some w_11)) dX9_number_15 ?_
    refine lv_icmp_ne (tgt := 32) hx hb dX9_number_18 (by decide) (fun c_17 => ?_) (fun c_17 => ?_)
    · have hD0 := ho
      have hX0 : x18 ≠ nI (tsk f n j) := fun h => c_17 h.symm
      have hDn := isD_in hD0
      refine lv_iconst (v := 0) hx hb dX9_number_32 (by decide) ?_
      refine lv_istore (lv' := [(4, .int 0), (0, .ref h0), (1, .int 2), (2, .int 1), (3, .int 30)]) hx hb dX9_number_33 hl (by decide) rfl (fun ls hl => ?_)
      refine W_loop (σ := Nat × (Nat → Value)) (D := (dC, dI)) (A := A) [] (fun (u : Nat × (Nat → Value)) => match u with | (i, g2) => [(4, .int (tnu f (tsk f n j) (i - tsk f n j))), (0, .ref h0), (1, .int 2), (2, .int 1), (3, .int 30)]) (fun (u : Nat × (Nat → Value)) => match u with | (i, g2) => [(h0, .inr (11, mo g2)), (a9, .inl (cT, 400, .inl f))]) (fun (u : Nat × (Nat → Value)) => match u with | (i, g2) => (tsk f n j ≤ i) ∧ (i ≤ tsk f n j + 2) ∧ (i ≤ n) ∧ (tde f n i = tde f n (tsk f n j)) ∧ (g2 9 = .ref a9) ∧ (g2 11 = .int (nI i)) ∧ (g2 12 = .int (nI n)) ∧ (g2 13 = .int b0) ∧ (g2 17 = .int (nI (tsk f n j))) ∧ (g2 18 = .int x18) ∧ (∀ k : Nat, k ≠ 11 → k ≠ 17 → g2 k = g k)) (fun (u : Nat × (Nat → Value)) => match u with | (i, g2) => n - i) ?_ ((tsk f n j), g1_3) ⟨(Nat.le_refl _), (by omega), hq2, rfl, w_8, k_5, w_9, w_10, k_6, w_11, (fun k h1 h2 => un_12 k h1 h2)⟩ _ _ _ (hP.sub (ws' := [(h0, .inr (11, mo g1_3)), (a9, .inl (cT, 400, .inl f))]) [0, 1] rfl) (hD.sub (ws' := [(h0, .inr (11, mo g1_3)), (a9, .inl (cT, 400, .inl f))]) [0, 1] (by decide) rfl) hS (by show lv_has _ _ [(4, .int (tnu f (tsk f n j) (tsk f n j - tsk f n j))), (0, .ref h0), (1, .int 2), (2, .int 1), (3, .int 30)]; rw [Nat.sub_self]; exact lv_sub hl [0, 1, 2, 3, 4] rfl)
      intro u hI H locs ls hP hD hS hl ih
      obtain ⟨i, g2⟩ := u
      try dsimp only at hI
      obtain ⟨hi1, hi2, hi3, hde, h9, h11, h12, h13, h17, h18, hun⟩ := hI
      have hP : va_P (dC, dI) vwCl [(h0, .inr (11, mo g2)), (a9, .inl (cT, 400, .inl f))] H := hP
      have hD : va_D A [(h0, .inr (11, mo g2)), (a9, .inl (cT, 400, .inl f))] := hD
      have hl : lv_has ls 5 [(4, .int (tnu f (tsk f n j) (i - tsk f n j))), (0, .ref h0), (1, .int 2), (2, .int 1), (3, .int 30)] := hl
      refine lv_aload_n hx hb dX9_number_35 rfl (lv_at hl 1 rfl) ?_
      refine va_get (D := (dC, dI)) (ci := 11) (v := .int (nI i)) (C := RX9) (T := TX9) (N := 60) hx hb hts iRX9 hown hK hP 0 rfl rfl 11 (by decide) (hts (.fieldLink RX9 141 "RecordBenchModel" "at" "I") (by decide +kernel)) (fun _ h9 => h9) ((mo_get g2 (by decide)).trans (congrArg some h11)) dX9_number_36 ?_
      refine lv_aload_n hx hb dX9_number_39 rfl (lv_at hl 1 rfl) ?_
      refine va_get (D := (dC, dI)) (ci := 11) (v := .int (nI n)) (C := RX9) (T := TX9) (N := 60) hx hb hts iRX9 hown hK hP 0 rfl rfl 12 (by decide) (hts (.fieldLink RX9 144 "RecordBenchModel" "size" "I") (by decide +kernel)) (fun _ h9 => h9) ((mo_get g2 (by decide)).trans (congrArg some h12)) dX9_number_40 ?_
      refine lv_icmp_ge (tgt := 118) hx hb dX9_number_43 (by decide) (fun c_18 => ?_) (fun c_18 => ?_)
      · have htd : tde f n (tsk f n j) = i := hde.symm.trans (tde_no (fun h => absurd h.1 (by have := nI_leN (by omega) (by omega) c_18; omega)))
        refine lv_aload_n hx hb dX9_number_118 rfl (lv_at hl 1 rfl) ?_
        refine lv_aload_n hx hb dX9_number_119 rfl (lv_at hl 1 rfl) ?_
        refine va_get (D := (dC, dI)) (ci := 11) (v := .int (nI i)) (C := RX9) (T := TX9) (N := 60) hx hb hts iRX9 hown hK hP 0 rfl rfl 11 (by decide) (hts (.fieldLink RX9 141 "RecordBenchModel" "at" "I") (by decide +kernel)) (fun _ h9 => h9) ((mo_get g2 (by decide)).trans (congrArg some h11)) dX9_number_120 ?_
        refine va_put (D := (dC, dI)) (ci := 11) (v := .int (nI i)) (ty := .int) (C := RX9) (T := TX9) (N := 60) hx hb hts iRX9 tyX9 tyX9_ok nmX9 hown hK hP hD hS 0 rfl rfl 18 (by decide) (hts (.fieldLink RX9 162 "RecordBenchModel" "ended" "I") (by decide +kernel)) (fun _ h9 => h9) rfl (by decide +kernel) rfl rfl (by rw [mo_len]; decide) dX9_number_123 (fun H locs hP hD hS => ?_)
        obtain ⟨g_19, eg_19⟩ : ∃ y, y = va_up g2 18 (.int (nI i)) := ⟨_, rfl⟩
        have hP : va_P (dC, dI) vwCl [(h0, .inr (11, mo g_19)), (a9, .inl (cT, 400, .inl f))] H := by rw [eg_19, ← mo_set g2 (by decide)]; exact hP
        have hD : va_D A [(h0, .inr (11, mo g_19)), (a9, .inl (cT, 400, .inl f))] := by rw [eg_19, ← mo_set g2 (by decide)]; exact hD
        have g_19h9 : g_19 9 = .ref a9 := by rw [eg_19, va_up_ne _ _ (by decide)]; exact h9
        have g_19h11 : g_19 11 = .int (nI i) := by rw [eg_19, va_up_ne _ _ (by decide)]; exact h11
        have g_19h12 : g_19 12 = .int (nI n) := by rw [eg_19, va_up_ne _ _ (by decide)]; exact h12
        have g_19h13 : g_19 13 = .int b0 := by rw [eg_19, va_up_ne _ _ (by decide)]; exact h13
        have g_19h17 : g_19 17 = .int (nI (tsk f n j)) := by rw [eg_19, va_up_ne _ _ (by decide)]; exact h17
        have g_19h18 : g_19 18 = .int (nI i) := by rw [eg_19, va_up_self]
        have ung_19 : ∀ j : Nat, j ≠ 11 → j ≠ 17 → j ≠ 18 → g_19 j = g j := fun j h11 h17 h18 => by rw [eg_19, va_up_ne _ _ h18]; exact hun j h11 h17
        refine lv_iload hx hb dX9_number_126 (lv_at hl 0 rfl) ?_
        refine lv_iload_n hx hb dX9_number_128 rfl (lv_at hl 3 rfl) ?_
        refine lv_icmp_lt (tgt := 138) hx hb dX9_number_129 (by decide) (fun c_20 => ?_) (fun c_20 => ?_)
        · refine lv_aload_n hx hb dX9_number_138 rfl (lv_at hl 1 rfl) ?_
          refine lv_iconst (v := 2) hx hb dX9_number_139 (by decide) ?_
          refine lv_aload_n hx hb dX9_number_140 rfl (lv_at hl 1 rfl) ?_
          refine va_get (D := (dC, dI)) (ci := 11) (v := .int (nI (tsk f n j))) (C := RX9) (T := TX9) (N := 60) hx hb hts iRX9 hown hK hP 0 rfl rfl 17 (by decide) (hts (.fieldLink RX9 147 "RecordBenchModel" "begun" "I") (by decide +kernel)) (fun _ h9 => h9) ((mo_get g_19 (by decide)).trans (congrArg some g_19h17)) dX9_number_141 ?_
          have hFc := va_free (wc := [(h0, .inr (11, mo g_19))]) hD hS hA [0] rfl
          refine va_callv (va_runV (As := [.int 2, .int (nI (tsk f n j))]) (rest := []) ⟨hx, hb, hml, hown, hts⟩ (c_X9_fail l dC dI h0 g_19 b0 g_19h13 2 (nI (tsk f n j)) (by decide) H.size) (cwV 2 hts gp_X9_number_X9_fail_154 rfl rfl rfl (by decide +kernel) ⟨Nat.le_of_ble_eq_true rfl, Nat.le_of_ble_eq_true rfl⟩) ⟨Pr.blind _, va_recv hK hP (ci := 11) (q0 := 0) rfl rfl, fun U hU hW => ⟨rfl, Pr.at (hP.sub (ws' := [(h0, .inr (11, mo g_19))]) [0] rfl) (hK.sub (tys' := []) [] rfl) (hD.sub (ws' := [(h0, .inr (11, mo g_19))]) [0] (by decide) rfl) hN hZ RO.nil hS hFc hU hW⟩⟩ rfl rfl hl.1 rfl (lv_room (Nat.le_of_ble_eq_true rfl)) dX9_number_144 ⟨Nat.le_of_ble_eq_true rfl, Nat.le_of_ble_eq_true rfl⟩) hS (fun q _ h => hFc q h) hFc (fun u t H1 locs ht hvm hw_22 hB hz1 hk1 hS => ?_)
          obtain ⟨g1_23, b1_24⟩ := u
          obtain ⟨hP, hD, hK⟩ := Bq.join (wr := [(a9, .inl (cT, 400, .inl f))]) hB ht hvm hP hD [0] [1] rfl rfl (by decide) (by decide) hk1 hFc hK
          generalize H1 = H at hP hS ⊢
          have hP : va_P (dC, dI) vwCl [(a9, .inl (cT, 400, .inl f)), (h0, .inr (11, mo g1_23))] H := hP
          have hD : va_D A [(a9, .inl (cT, 400, .inl f)), (h0, .inr (11, mo g1_23))] := hD
          have hK : va_K (dC, dI) vwCl [(cT, .int)] s := hK
          try dsimp only at hw_22
          obtain ⟨k_25, k_26, k_27⟩ := hw_22
          have w_28 : g1_23 9 = .ref a9 := (k_27 9 (by decide) (by decide)).trans g_19h9
          have w_29 : g1_23 11 = .int (nI i) := (k_27 11 (by decide) (by decide)).trans g_19h11
          have w_30 : g1_23 12 = .int (nI n) := (k_27 12 (by decide) (by decide)).trans g_19h12
          have w_31 : g1_23 17 = .int (nI (tsk f n j)) := (k_27 17 (by decide) (by decide)).trans g_19h17
          have w_32 : g1_23 18 = .int (nI i) := (k_27 18 (by decide) (by decide)).trans g_19h18
          have un_33 : ∀ j : Nat, j ≠ 11 → j ≠ 13 → j ≠ 14 → j ≠ 17 → j ≠ 18 → g1_23 j = g j := fun j h11 h13 h14 h17 h18 => (k_27 j h13 h14).trans (ung_19 j h11 h17 h18)
          refine lv_iload hx hb dX9_number_147 (lv_at hl 0 rfl) ?_
          have hP9 := hP.sub (ws' := [(h0, .inr (11, mo g1_23)), (a9, .inl (cT, 400, .inl f))]) [1, 0] rfl
          have hD9 := hD.sub (ws' := [(h0, .inr (11, mo g1_23)), (a9, .inl (cT, 400, .inl f))]) [1, 0] (by decide) rfl
          have hK9 := hK.sub (tys' := []) [] rfl
          exact W.iret (v := tnu f (tsk f n j) (i - tsk f n j)) hx hb hr (fun t ht hW => ⟨⟨tnu f (tsk f n j) (i - tsk f n j), (g1_23, i, b1_24, (nI i)), rfl, ⟨Or.inr ⟨fun h => h.2.2.2.1 (by rw [htd]; exact c_20), hi3, k_25⟩, w_29, k_26, w_31, w_32, (fun j h11 h13 h14 h17 h18 => un_33 j h11 h13 h14 h17 h18)⟩, by rw [ht]; exact hP9, va_K.moved hW.alike hK9, hD9⟩, hS.F ht⟩) hS.2.2 dX9_number_149
        · refine lv_iload hx hb dX9_number_132 (lv_at hl 0 rfl) ?_
          refine lv_iload_n hx hb dX9_number_134 rfl (lv_at hl 4 rfl) ?_
          refine lv_icmp_le (tgt := 147) hx hb dX9_number_135 (by decide) (fun c_34 => ?_) (fun c_34 => ?_)
          · refine lv_iload hx hb dX9_number_147 (lv_at hl 0 rfl) ?_
            have hP9 := hP.sub (ws' := [(h0, .inr (11, mo g_19)), (a9, .inl (cT, 400, .inl f))]) [0, 1] rfl
            have hD9 := hD.sub (ws' := [(h0, .inr (11, mo g_19)), (a9, .inl (cT, 400, .inl f))]) [0, 1] (by decide) rfl
            have hK9 := hK.sub (tys' := []) [] rfl
            exact W.iret (v := tnu f (tsk f n j) (i - tsk f n j)) hx hb hr (fun t ht hW => ⟨⟨tnu f (tsk f n j) (i - tsk f n j), (g_19, i, b0, (nI i)), rfl, ⟨Or.inl ⟨⟨hD0, hX0, by rw [htd]; omega, by rw [htd]; exact c_20, by rw [htd]; exact c_34⟩, isD_in hD0, htd.symm, rfl, by rw [htd], by rw [htd]⟩, g_19h11, g_19h13, g_19h17, g_19h18, (fun j h11 h13 h14 h17 h18 => ung_19 j h11 h17 h18)⟩, by rw [ht]; exact hP9, va_K.moved hW.alike hK9, hD9⟩, hS.F ht⟩) hS.2.2 dX9_number_149
          · refine lv_aload_n hx hb dX9_number_138 rfl (lv_at hl 1 rfl) ?_
            refine lv_iconst (v := 2) hx hb dX9_number_139 (by decide) ?_
            refine lv_aload_n hx hb dX9_number_140 rfl (lv_at hl 1 rfl) ?_
            refine va_get (D := (dC, dI)) (ci := 11) (v := .int (nI (tsk f n j))) (C := RX9) (T := TX9) (N := 60) hx hb hts iRX9 hown hK hP 0 rfl rfl 17 (by decide) (hts (.fieldLink RX9 147 "RecordBenchModel" "begun" "I") (by decide +kernel)) (fun _ h9 => h9) ((mo_get g_19 (by decide)).trans (congrArg some g_19h17)) dX9_number_141 ?_
            have hFc := va_free (wc := [(h0, .inr (11, mo g_19))]) hD hS hA [0] rfl
            refine va_callv (va_runV (As := [.int 2, .int (nI (tsk f n j))]) (rest := []) ⟨hx, hb, hml, hown, hts⟩ (c_X9_fail l dC dI h0 g_19 b0 g_19h13 2 (nI (tsk f n j)) (by decide) H.size) (cwV 2 hts gp_X9_number_X9_fail_154 rfl rfl rfl (by decide +kernel) ⟨Nat.le_of_ble_eq_true rfl, Nat.le_of_ble_eq_true rfl⟩) ⟨Pr.blind _, va_recv hK hP (ci := 11) (q0 := 0) rfl rfl, fun U hU hW => ⟨rfl, Pr.at (hP.sub (ws' := [(h0, .inr (11, mo g_19))]) [0] rfl) (hK.sub (tys' := []) [] rfl) (hD.sub (ws' := [(h0, .inr (11, mo g_19))]) [0] (by decide) rfl) hN hZ RO.nil hS hFc hU hW⟩⟩ rfl rfl hl.1 rfl (lv_room (Nat.le_of_ble_eq_true rfl)) dX9_number_144 ⟨Nat.le_of_ble_eq_true rfl, Nat.le_of_ble_eq_true rfl⟩) hS (fun q _ h => hFc q h) hFc (fun u t H1 locs ht hvm hw_36 hB hz1 hk1 hS => ?_)
            obtain ⟨g1_37, b1_38⟩ := u
            obtain ⟨hP, hD, hK⟩ := Bq.join (wr := [(a9, .inl (cT, 400, .inl f))]) hB ht hvm hP hD [0] [1] rfl rfl (by decide) (by decide) hk1 hFc hK
            generalize H1 = H at hP hS ⊢
            have hP : va_P (dC, dI) vwCl [(a9, .inl (cT, 400, .inl f)), (h0, .inr (11, mo g1_37))] H := hP
            have hD : va_D A [(a9, .inl (cT, 400, .inl f)), (h0, .inr (11, mo g1_37))] := hD
            have hK : va_K (dC, dI) vwCl [(cT, .int)] s := hK
            try dsimp only at hw_36
            obtain ⟨k_39, k_40, k_41⟩ := hw_36
            have w_42 : g1_37 9 = .ref a9 := (k_41 9 (by decide) (by decide)).trans g_19h9
            have w_43 : g1_37 11 = .int (nI i) := (k_41 11 (by decide) (by decide)).trans g_19h11
            have w_44 : g1_37 12 = .int (nI n) := (k_41 12 (by decide) (by decide)).trans g_19h12
            have w_45 : g1_37 17 = .int (nI (tsk f n j)) := (k_41 17 (by decide) (by decide)).trans g_19h17
            have w_46 : g1_37 18 = .int (nI i) := (k_41 18 (by decide) (by decide)).trans g_19h18
            have un_47 : ∀ j : Nat, j ≠ 11 → j ≠ 13 → j ≠ 14 → j ≠ 17 → j ≠ 18 → g1_37 j = g j := fun j h11 h13 h14 h17 h18 => (k_41 j h13 h14).trans (ung_19 j h11 h17 h18)
            refine lv_iload hx hb dX9_number_147 (lv_at hl 0 rfl) ?_
            have hP9 := hP.sub (ws' := [(h0, .inr (11, mo g1_37)), (a9, .inl (cT, 400, .inl f))]) [1, 0] rfl
            have hD9 := hD.sub (ws' := [(h0, .inr (11, mo g1_37)), (a9, .inl (cT, 400, .inl f))]) [1, 0] (by decide) rfl
            have hK9 := hK.sub (tys' := []) [] rfl
            exact W.iret (v := tnu f (tsk f n j) (i - tsk f n j)) hx hb hr (fun t ht hW => ⟨⟨tnu f (tsk f n j) (i - tsk f n j), (g1_37, i, b1_38, (nI i)), rfl, ⟨Or.inr ⟨fun h => c_34 (by have := h.2.2.2.2; rw [htd] at this; exact this), hi3, k_39⟩, w_43, k_40, w_45, w_46, (fun j h11 h13 h14 h17 h18 => un_47 j h11 h13 h14 h17 h18)⟩, by rw [ht]; exact hP9, va_K.moved hW.alike hK9, hD9⟩, hS.F ht⟩) hS.2.2 dX9_number_149
      · have hlt : i < n := nI_ltN (by omega) (by omega) c_18
        refine lv_aload_n hx hb dX9_number_46 rfl (lv_at hl 1 rfl) ?_
        refine va_get (D := (dC, dI)) (ci := 11) (v := .ref a9) (C := RX9) (T := TX9) (N := 60) hx hb hts iRX9 hown hK hP 0 rfl rfl 9 (by decide) (hts (.fieldLink RX9 39 "RecordBenchModel" "tape" "[I") (by decide +kernel)) (fun _ h9 => h9) ((mo_get g2 (by decide)).trans (congrArg some h9)) dX9_number_47 ?_
        refine lv_aload_n hx hb dX9_number_50 rfl (lv_at hl 1 rfl) ?_
        refine va_get (D := (dC, dI)) (ci := 11) (v := .int (nI i)) (C := RX9) (T := TX9) (N := 60) hx hb hts iRX9 hown hK hP 0 rfl rfl 11 (by decide) (hts (.fieldLink RX9 141 "RecordBenchModel" "at" "I") (by decide +kernel)) (fun _ h9 => h9) ((mo_get g2 (by decide)).trans (congrArg some h11)) dX9_number_51 ?_
        refine va_iald hx hb hK hP 1 0 rfl rfl (vp_in_nI (by omega) (by decide)) dX9_number_54 ?_
        refine W_toi (y := f i) (by rw [nI_clamp (by omega)]) ?_
        have hFc := va_free (wc := []) hD hS hA [] rfl
        refine va_calli (va_runS (As := [.int (f i)]) (rest := []) ⟨hx, hb, hml, hown, hts⟩ (c_X9_isDigit l dC dI (f i) H.size) (cwS 1 hts gp_X9_number_X9_isDigit_158 rfl rfl rfl (by decide +kernel) ⟨Nat.le_of_ble_eq_true rfl, Nat.le_of_ble_eq_true rfl⟩) ⟨Pr.blind _, fun U hU hW => ⟨rfl, Pr.at (hP.sub (ws' := []) [] rfl) (hK.sub (tys' := []) [] rfl) (hD.sub (ws' := []) [] (by decide) rfl) hN hZ RO.nil hS hFc hU hW⟩⟩ rfl rfl hl.1 rfl (lv_room (Nat.le_of_ble_eq_true rfl)) dX9_number_55 ⟨Nat.le_of_ble_eq_true rfl, Nat.le_of_ble_eq_true rfl⟩) hS (fun q _ h => hFc q h) hFc (fun r_48 u t H1 locs ht hvm hw_49 hB hz1 hk1 hS => ?_)
        obtain ⟨hP, hD, hK⟩ := Bq.join (wr := [(h0, .inr (11, mo g2)), (a9, .inl (cT, 400, .inl f))]) hB ht hvm hP hD [] [0, 1] rfl rfl (by decide) (by decide) hk1 hFc hK
        generalize H1 = H at hP hS ⊢
        have hP : va_P (dC, dI) vwCl [(h0, .inr (11, mo g2)), (a9, .inl (cT, 400, .inl f))] H := hP
        have hD : va_D A [(h0, .inr (11, mo g2)), (a9, .inl (cT, 400, .inl f))] := hD
        have hK : va_K (dC, dI) vwCl [(cT, .int)] s := hK
        try dsimp only at hw_49
        have k_50 := hw_49
        rcases k_50 with ⟨ho, rfl⟩ | ⟨ho, rfl⟩
        · refine W.eq (g2 := F0 m 58 ls [.int 1]) rfl ?_
          refine lv_if_eq (tgt := 118) hx hb dX9_number_58 (by decide) (fun c_51 => absurd c_51 (by decide)) (fun c_51 => ?_)
          refine lv_aload_n hx hb dX9_number_61 rfl (lv_at hl 1 rfl) ?_
          refine va_get (D := (dC, dI)) (ci := 11) (v := .int (nI i)) (C := RX9) (T := TX9) (N := 60) hx hb hts iRX9 hown hK hP 0 rfl rfl 11 (by decide) (hts (.fieldLink RX9 141 "RecordBenchModel" "at" "I") (by decide +kernel)) (fun _ h9 => h9) ((mo_get g2 (by decide)).trans (congrArg some h11)) dX9_number_62 ?_
          refine lv_aload_n hx hb dX9_number_65 rfl (lv_at hl 1 rfl) ?_
          refine va_get (D := (dC, dI)) (ci := 11) (v := .int (nI (tsk f n j))) (C := RX9) (T := TX9) (N := 60) hx hb hts iRX9 hown hK hP 0 rfl rfl 17 (by decide) (hts (.fieldLink RX9 147 "RecordBenchModel" "begun" "I") (by decide +kernel)) (fun _ h9 => h9) ((mo_get g2 (by decide)).trans (congrArg some h17)) dX9_number_66 ?_
          refine lv_isub hx hb dX9_number_69 ?_
          refine W_toi (y := nI (i - tsk f n j)) (pk_sub hi1) ?_
          refine lv_iload_n hx hb dX9_number_70 rfl (lv_at hl 2 rfl) ?_
          refine lv_icmp_ne (tgt := 85) hx hb dX9_number_71 (by decide) (fun c_52 => ?_) (fun c_52 => ?_)
          · have hne : i - tsk f n j ≠ 2 := fun h => c_52 (by rw [h]; rfl)
            refine lv_bipush (v := 10) hx hb dX9_number_85 (by decide) ?_
            refine lv_iload hx hb dX9_number_87 (lv_at hl 0 rfl) ?_
            refine lv_imul hx hb dX9_number_89 ?_
            refine lv_aload_n hx hb dX9_number_90 rfl (lv_at hl 1 rfl) ?_
            refine va_get (D := (dC, dI)) (ci := 11) (v := .ref a9) (C := RX9) (T := TX9) (N := 60) hx hb hts iRX9 hown hK hP 0 rfl rfl 9 (by decide) (hts (.fieldLink RX9 39 "RecordBenchModel" "tape" "[I") (by decide +kernel)) (fun _ h9 => h9) ((mo_get g2 (by decide)).trans (congrArg some h9)) dX9_number_91 ?_
            refine lv_aload_n hx hb dX9_number_94 rfl (lv_at hl 1 rfl) ?_
            refine va_get (D := (dC, dI)) (ci := 11) (v := .int (nI i)) (C := RX9) (T := TX9) (N := 60) hx hb hts iRX9 hown hK hP 0 rfl rfl 11 (by decide) (hts (.fieldLink RX9 141 "RecordBenchModel" "at" "I") (by decide +kernel)) (fun _ h9 => h9) ((mo_get g2 (by decide)).trans (congrArg some h11)) dX9_number_95 ?_
            refine va_iald hx hb hK hP 1 0 rfl rfl (vp_in_nI (by omega) (by decide)) dX9_number_98 ?_
            refine W_toi (y := f i) (by rw [nI_clamp (by omega)]) ?_
            refine lv_iadd hx hb dX9_number_99 ?_
            refine lv_bipush (v := 48) hx hb dX9_number_100 (by decide) ?_
            refine lv_isub hx hb dX9_number_102 ?_
            refine W_toi (y := tnu f (tsk f n j) (i + 1 - tsk f n j)) (tnu_step hi1) ?_
            refine lv_istore (lv' := [(4, .int (tnu f (tsk f n j) (i + 1 - tsk f n j))), (0, .ref h0), (1, .int 2), (2, .int 1), (3, .int 30)]) hx hb dX9_number_103 hl (by decide) rfl (fun ls hl => ?_)
            refine lv_aload_n hx hb dX9_number_105 rfl (lv_at hl 1 rfl) ?_
            refine lv_dup hx hb dX9_number_106 rfl ?_
            refine va_get (D := (dC, dI)) (ci := 11) (v := .int (nI i)) (C := RX9) (T := TX9) (N := 60) hx hb hts iRX9 hown hK hP 0 rfl rfl 11 (by decide) (hts (.fieldLink RX9 141 "RecordBenchModel" "at" "I") (by decide +kernel)) (fun _ h9 => h9) ((mo_get g2 (by decide)).trans (congrArg some h11)) dX9_number_107 ?_
            refine lv_iconst (v := 1) hx hb dX9_number_110 (by decide) ?_
            refine lv_iadd hx hb dX9_number_111 ?_
            refine W_toi (y := nI (i + 1)) (nI_1 i) ?_
            refine va_put (D := (dC, dI)) (ci := 11) (v := .int (nI (i + 1))) (ty := .int) (C := RX9) (T := TX9) (N := 60) hx hb hts iRX9 tyX9 tyX9_ok nmX9 hown hK hP hD hS 0 rfl rfl 11 (by decide) (hts (.fieldLink RX9 141 "RecordBenchModel" "at" "I") (by decide +kernel)) (fun _ h9 => h9) rfl (by decide +kernel) rfl rfl (by rw [mo_len]; decide) dX9_number_112 (fun H locs hP hD hS => ?_)
            obtain ⟨g_53, eg_53⟩ : ∃ y, y = va_up g2 11 (.int (nI (i + 1))) := ⟨_, rfl⟩
            have hP : va_P (dC, dI) vwCl [(h0, .inr (11, mo g_53)), (a9, .inl (cT, 400, .inl f))] H := by rw [eg_53, ← mo_set g2 (by decide)]; exact hP
            have hD : va_D A [(h0, .inr (11, mo g_53)), (a9, .inl (cT, 400, .inl f))] := by rw [eg_53, ← mo_set g2 (by decide)]; exact hD
            have g_53h9 : g_53 9 = .ref a9 := by rw [eg_53, va_up_ne _ _ (by decide)]; exact h9
            have g_53h12 : g_53 12 = .int (nI n) := by rw [eg_53, va_up_ne _ _ (by decide)]; exact h12
            have g_53h13 : g_53 13 = .int b0 := by rw [eg_53, va_up_ne _ _ (by decide)]; exact h13
            have g_53h17 : g_53 17 = .int (nI (tsk f n j)) := by rw [eg_53, va_up_ne _ _ (by decide)]; exact h17
            have g_53h18 : g_53 18 = .int x18 := by rw [eg_53, va_up_ne _ _ (by decide)]; exact h18
            have g_53h11 : g_53 11 = .int (nI (i + 1)) := by rw [eg_53, va_up_self]
            have ung_53 : ∀ j : Nat, j ≠ 11 → j ≠ 17 → g_53 j = g j := fun j h11 h17 => by rw [eg_53, va_up_ne _ _ h11]; exact hun j h11 h17
            refine lv_goto (tgt := 35) hx hb dX9_number_115 (by decide) ?_
            exact ih ((i + 1), g_53) (by show n - (i + 1) < n - i; omega) ⟨(by omega), (by omega), (by omega), ((tde_go hlt ho).symm.trans hde), g_53h9, g_53h11, g_53h12, g_53h13, g_53h17, g_53h18, (fun k h1 h2 => ung_53 k h1 h2)⟩ _ _ _ (hP.sub (ws' := [(h0, .inr (11, mo g_53)), (a9, .inl (cT, 400, .inl f))]) [0, 1] rfl) (hD.sub (ws' := [(h0, .inr (11, mo g_53)), (a9, .inl (cT, 400, .inl f))]) [0, 1] (by decide) rfl) hS (lv_sub hl [0, 1, 2, 3, 4] rfl)
          · refine lv_aload_n hx hb dX9_number_74 rfl (lv_at hl 1 rfl) ?_
            refine lv_iconst (v := 1) hx hb dX9_number_75 (by decide) ?_
            refine lv_aload_n hx hb dX9_number_76 rfl (lv_at hl 1 rfl) ?_
            refine va_get (D := (dC, dI)) (ci := 11) (v := .int (nI i)) (C := RX9) (T := TX9) (N := 60) hx hb hts iRX9 hown hK hP 0 rfl rfl 11 (by decide) (hts (.fieldLink RX9 141 "RecordBenchModel" "at" "I") (by decide +kernel)) (fun _ h9 => h9) ((mo_get g2 (by decide)).trans (congrArg some h11)) dX9_number_77 ?_
            have hFc := va_free (wc := [(h0, .inr (11, mo g2))]) hD hS hA [0] rfl
            refine va_callv (va_runV (As := [.int 1, .int (nI i)]) (rest := []) ⟨hx, hb, hml, hown, hts⟩ (c_X9_fail l dC dI h0 g2 b0 h13 1 (nI i) (by decide) H.size) (cwV 2 hts gp_X9_number_X9_fail_154 rfl rfl rfl (by decide +kernel) ⟨Nat.le_of_ble_eq_true rfl, Nat.le_of_ble_eq_true rfl⟩) ⟨Pr.blind _, va_recv hK hP (ci := 11) (q0 := 0) rfl rfl, fun U hU hW => ⟨rfl, Pr.at (hP.sub (ws' := [(h0, .inr (11, mo g2))]) [0] rfl) (hK.sub (tys' := []) [] rfl) (hD.sub (ws' := [(h0, .inr (11, mo g2))]) [0] (by decide) rfl) hN hZ RO.nil hS hFc hU hW⟩⟩ rfl rfl hl.1 rfl (lv_room (Nat.le_of_ble_eq_true rfl)) dX9_number_80 ⟨Nat.le_of_ble_eq_true rfl, Nat.le_of_ble_eq_true rfl⟩) hS (fun q _ h => hFc q h) hFc (fun u t H1 locs ht hvm hw_55 hB hz1 hk1 hS => ?_)
            obtain ⟨g1_56, b1_57⟩ := u
            obtain ⟨hP, hD, hK⟩ := Bq.join (wr := [(a9, .inl (cT, 400, .inl f))]) hB ht hvm hP hD [0] [1] rfl rfl (by decide) (by decide) hk1 hFc hK
            generalize H1 = H at hP hS ⊢
            have hP : va_P (dC, dI) vwCl [(a9, .inl (cT, 400, .inl f)), (h0, .inr (11, mo g1_56))] H := hP
            have hD : va_D A [(a9, .inl (cT, 400, .inl f)), (h0, .inr (11, mo g1_56))] := hD
            have hK : va_K (dC, dI) vwCl [(cT, .int)] s := hK
            try dsimp only at hw_55
            obtain ⟨k_58, k_59, k_60⟩ := hw_55
            have w_61 : g1_56 9 = .ref a9 := (k_60 9 (by decide) (by decide)).trans h9
            have w_62 : g1_56 11 = .int (nI i) := (k_60 11 (by decide) (by decide)).trans h11
            have w_63 : g1_56 12 = .int (nI n) := (k_60 12 (by decide) (by decide)).trans h12
            have w_64 : g1_56 17 = .int (nI (tsk f n j)) := (k_60 17 (by decide) (by decide)).trans h17
            have w_65 : g1_56 18 = .int x18 := (k_60 18 (by decide) (by decide)).trans h18
            have un_66 : ∀ j : Nat, j ≠ 11 → j ≠ 13 → j ≠ 14 → j ≠ 17 → g1_56 j = g j := fun j h11 h13 h14 h17 => (k_60 j h13 h14).trans (hun j h11 h17)
            refine lv_iconst (v := 0) hx hb dX9_number_83 (by decide) ?_
            have hP9 := hP.sub (ws' := [(h0, .inr (11, mo g1_56)), (a9, .inl (cT, 400, .inl f))]) [1, 0] rfl
            have hD9 := hD.sub (ws' := [(h0, .inr (11, mo g1_56)), (a9, .inl (cT, 400, .inl f))]) [1, 0] (by decide) rfl
            have hK9 := hK.sub (tys' := []) [] rfl
            exact W.iret (v := 0) hx hb hr (fun t ht hW => ⟨⟨0, (g1_56, i, b1_57, x18), rfl, ⟨Or.inr ⟨fun h => absurd h.2.2.1 (by have e2 : i - tsk f n j = 2 := (nI_eq (b := 2) (by omega) (by decide)).mp c_52; rw [← hde, tde_go hlt ho]; have := tde_ge f n (i + 1); omega), hi3, k_58⟩, w_62, k_59, w_64, w_65, (fun j h11 h13 h14 h17 h18 => un_66 j h11 h13 h14 h17)⟩, by rw [ht]; exact hP9, va_K.moved hW.alike hK9, hD9⟩, hS.F ht⟩) hS.2.2 dX9_number_84
        · refine W.eq (g2 := F0 m 58 ls [.int 0]) rfl ?_
          refine lv_if_eq (tgt := 118) hx hb dX9_number_58 (by decide) (fun c_67 => ?_) (fun c_67 => absurd (by decide) c_67)
          have htd : tde f n (tsk f n j) = i := hde.symm.trans (tde_no (fun h => ho h.2))
          refine lv_aload_n hx hb dX9_number_118 rfl (lv_at hl 1 rfl) ?_
          refine lv_aload_n hx hb dX9_number_119 rfl (lv_at hl 1 rfl) ?_
          refine va_get (D := (dC, dI)) (ci := 11) (v := .int (nI i)) (C := RX9) (T := TX9) (N := 60) hx hb hts iRX9 hown hK hP 0 rfl rfl 11 (by decide) (hts (.fieldLink RX9 141 "RecordBenchModel" "at" "I") (by decide +kernel)) (fun _ h9 => h9) ((mo_get g2 (by decide)).trans (congrArg some h11)) dX9_number_120 ?_
          refine va_put (D := (dC, dI)) (ci := 11) (v := .int (nI i)) (ty := .int) (C := RX9) (T := TX9) (N := 60) hx hb hts iRX9 tyX9 tyX9_ok nmX9 hown hK hP hD hS 0 rfl rfl 18 (by decide) (hts (.fieldLink RX9 162 "RecordBenchModel" "ended" "I") (by decide +kernel)) (fun _ h9 => h9) rfl (by decide +kernel) rfl rfl (by rw [mo_len]; decide) dX9_number_123 (fun H locs hP hD hS => ?_)
          obtain ⟨g_68, eg_68⟩ : ∃ y, y = va_up g2 18 (.int (nI i)) := ⟨_, rfl⟩
          have hP : va_P (dC, dI) vwCl [(h0, .inr (11, mo g_68)), (a9, .inl (cT, 400, .inl f))] H := by rw [eg_68, ← mo_set g2 (by decide)]; exact hP
          have hD : va_D A [(h0, .inr (11, mo g_68)), (a9, .inl (cT, 400, .inl f))] := by rw [eg_68, ← mo_set g2 (by decide)]; exact hD
          have g_68h9 : g_68 9 = .ref a9 := by rw [eg_68, va_up_ne _ _ (by decide)]; exact h9
          have g_68h11 : g_68 11 = .int (nI i) := by rw [eg_68, va_up_ne _ _ (by decide)]; exact h11
          have g_68h12 : g_68 12 = .int (nI n) := by rw [eg_68, va_up_ne _ _ (by decide)]; exact h12
          have g_68h13 : g_68 13 = .int b0 := by rw [eg_68, va_up_ne _ _ (by decide)]; exact h13
          have g_68h17 : g_68 17 = .int (nI (tsk f n j)) := by rw [eg_68, va_up_ne _ _ (by decide)]; exact h17
          have g_68h18 : g_68 18 = .int (nI i) := by rw [eg_68, va_up_self]
          have ung_68 : ∀ j : Nat, j ≠ 11 → j ≠ 17 → j ≠ 18 → g_68 j = g j := fun j h11 h17 h18 => by rw [eg_68, va_up_ne _ _ h18]; exact hun j h11 h17
          refine lv_iload hx hb dX9_number_126 (lv_at hl 0 rfl) ?_
          refine lv_iload_n hx hb dX9_number_128 rfl (lv_at hl 3 rfl) ?_
          refine lv_icmp_lt (tgt := 138) hx hb dX9_number_129 (by decide) (fun c_69 => ?_) (fun c_69 => ?_)
          · refine lv_aload_n hx hb dX9_number_138 rfl (lv_at hl 1 rfl) ?_
            refine lv_iconst (v := 2) hx hb dX9_number_139 (by decide) ?_
            refine lv_aload_n hx hb dX9_number_140 rfl (lv_at hl 1 rfl) ?_
            refine va_get (D := (dC, dI)) (ci := 11) (v := .int (nI (tsk f n j))) (C := RX9) (T := TX9) (N := 60) hx hb hts iRX9 hown hK hP 0 rfl rfl 17 (by decide) (hts (.fieldLink RX9 147 "RecordBenchModel" "begun" "I") (by decide +kernel)) (fun _ h9 => h9) ((mo_get g_68 (by decide)).trans (congrArg some g_68h17)) dX9_number_141 ?_
            have hFc := va_free (wc := [(h0, .inr (11, mo g_68))]) hD hS hA [0] rfl
            refine va_callv (va_runV (As := [.int 2, .int (nI (tsk f n j))]) (rest := []) ⟨hx, hb, hml, hown, hts⟩ (c_X9_fail l dC dI h0 g_68 b0 g_68h13 2 (nI (tsk f n j)) (by decide) H.size) (cwV 2 hts gp_X9_number_X9_fail_154 rfl rfl rfl (by decide +kernel) ⟨Nat.le_of_ble_eq_true rfl, Nat.le_of_ble_eq_true rfl⟩) ⟨Pr.blind _, va_recv hK hP (ci := 11) (q0 := 0) rfl rfl, fun U hU hW => ⟨rfl, Pr.at (hP.sub (ws' := [(h0, .inr (11, mo g_68))]) [0] rfl) (hK.sub (tys' := []) [] rfl) (hD.sub (ws' := [(h0, .inr (11, mo g_68))]) [0] (by decide) rfl) hN hZ RO.nil hS hFc hU hW⟩⟩ rfl rfl hl.1 rfl (lv_room (Nat.le_of_ble_eq_true rfl)) dX9_number_144 ⟨Nat.le_of_ble_eq_true rfl, Nat.le_of_ble_eq_true rfl⟩) hS (fun q _ h => hFc q h) hFc (fun u t H1 locs ht hvm hw_71 hB hz1 hk1 hS => ?_)
            obtain ⟨g1_72, b1_73⟩ := u
            obtain ⟨hP, hD, hK⟩ := Bq.join (wr := [(a9, .inl (cT, 400, .inl f))]) hB ht hvm hP hD [0] [1] rfl rfl (by decide) (by decide) hk1 hFc hK
            generalize H1 = H at hP hS ⊢
            have hP : va_P (dC, dI) vwCl [(a9, .inl (cT, 400, .inl f)), (h0, .inr (11, mo g1_72))] H := hP
            have hD : va_D A [(a9, .inl (cT, 400, .inl f)), (h0, .inr (11, mo g1_72))] := hD
            have hK : va_K (dC, dI) vwCl [(cT, .int)] s := hK
            try dsimp only at hw_71
            obtain ⟨k_74, k_75, k_76⟩ := hw_71
            have w_77 : g1_72 9 = .ref a9 := (k_76 9 (by decide) (by decide)).trans g_68h9
            have w_78 : g1_72 11 = .int (nI i) := (k_76 11 (by decide) (by decide)).trans g_68h11
            have w_79 : g1_72 12 = .int (nI n) := (k_76 12 (by decide) (by decide)).trans g_68h12
            have w_80 : g1_72 17 = .int (nI (tsk f n j)) := (k_76 17 (by decide) (by decide)).trans g_68h17
            have w_81 : g1_72 18 = .int (nI i) := (k_76 18 (by decide) (by decide)).trans g_68h18
            have un_82 : ∀ j : Nat, j ≠ 11 → j ≠ 13 → j ≠ 14 → j ≠ 17 → j ≠ 18 → g1_72 j = g j := fun j h11 h13 h14 h17 h18 => (k_76 j h13 h14).trans (ung_68 j h11 h17 h18)
            refine lv_iload hx hb dX9_number_147 (lv_at hl 0 rfl) ?_
            have hP9 := hP.sub (ws' := [(h0, .inr (11, mo g1_72)), (a9, .inl (cT, 400, .inl f))]) [1, 0] rfl
            have hD9 := hD.sub (ws' := [(h0, .inr (11, mo g1_72)), (a9, .inl (cT, 400, .inl f))]) [1, 0] (by decide) rfl
            have hK9 := hK.sub (tys' := []) [] rfl
            exact W.iret (v := tnu f (tsk f n j) (i - tsk f n j)) hx hb hr (fun t ht hW => ⟨⟨tnu f (tsk f n j) (i - tsk f n j), (g1_72, i, b1_73, (nI i)), rfl, ⟨Or.inr ⟨fun h => h.2.2.2.1 (by rw [htd]; exact c_69), hi3, k_74⟩, w_78, k_75, w_80, w_81, (fun j h11 h13 h14 h17 h18 => un_82 j h11 h13 h14 h17 h18)⟩, by rw [ht]; exact hP9, va_K.moved hW.alike hK9, hD9⟩, hS.F ht⟩) hS.2.2 dX9_number_149
          · refine lv_iload hx hb dX9_number_132 (lv_at hl 0 rfl) ?_
            refine lv_iload_n hx hb dX9_number_134 rfl (lv_at hl 4 rfl) ?_
            refine lv_icmp_le (tgt := 147) hx hb dX9_number_135 (by decide) (fun c_83 => ?_) (fun c_83 => ?_)
            · refine lv_iload hx hb dX9_number_147 (lv_at hl 0 rfl) ?_
              have hP9 := hP.sub (ws' := [(h0, .inr (11, mo g_68)), (a9, .inl (cT, 400, .inl f))]) [0, 1] rfl
              have hD9 := hD.sub (ws' := [(h0, .inr (11, mo g_68)), (a9, .inl (cT, 400, .inl f))]) [0, 1] (by decide) rfl
              have hK9 := hK.sub (tys' := []) [] rfl
              exact W.iret (v := tnu f (tsk f n j) (i - tsk f n j)) hx hb hr (fun t ht hW => ⟨⟨tnu f (tsk f n j) (i - tsk f n j), (g_68, i, b0, (nI i)), rfl, ⟨Or.inl ⟨⟨hD0, hX0, by rw [htd]; omega, by rw [htd]; exact c_69, by rw [htd]; exact c_83⟩, isD_in hD0, htd.symm, rfl, by rw [htd], by rw [htd]⟩, g_68h11, g_68h13, g_68h17, g_68h18, (fun j h11 h13 h14 h17 h18 => ung_68 j h11 h17 h18)⟩, by rw [ht]; exact hP9, va_K.moved hW.alike hK9, hD9⟩, hS.F ht⟩) hS.2.2 dX9_number_149
            · refine lv_aload_n hx hb dX9_number_138 rfl (lv_at hl 1 rfl) ?_
              refine lv_iconst (v := 2) hx hb dX9_number_139 (by decide) ?_
              refine lv_aload_n hx hb dX9_number_140 rfl (lv_at hl 1 rfl) ?_
              refine va_get (D := (dC, dI)) (ci := 11) (v := .int (nI (tsk f n j))) (C := RX9) (T := TX9) (N := 60) hx hb hts iRX9 hown hK hP 0 rfl rfl 17 (by decide) (hts (.fieldLink RX9 147 "RecordBenchModel" "begun" "I") (by decide +kernel)) (fun _ h9 => h9) ((mo_get g_68 (by decide)).trans (congrArg some g_68h17)) dX9_number_141 ?_
              have hFc := va_free (wc := [(h0, .inr (11, mo g_68))]) hD hS hA [0] rfl
              refine va_callv (va_runV (As := [.int 2, .int (nI (tsk f n j))]) (rest := []) ⟨hx, hb, hml, hown, hts⟩ (c_X9_fail l dC dI h0 g_68 b0 g_68h13 2 (nI (tsk f n j)) (by decide) H.size) (cwV 2 hts gp_X9_number_X9_fail_154 rfl rfl rfl (by decide +kernel) ⟨Nat.le_of_ble_eq_true rfl, Nat.le_of_ble_eq_true rfl⟩) ⟨Pr.blind _, va_recv hK hP (ci := 11) (q0 := 0) rfl rfl, fun U hU hW => ⟨rfl, Pr.at (hP.sub (ws' := [(h0, .inr (11, mo g_68))]) [0] rfl) (hK.sub (tys' := []) [] rfl) (hD.sub (ws' := [(h0, .inr (11, mo g_68))]) [0] (by decide) rfl) hN hZ RO.nil hS hFc hU hW⟩⟩ rfl rfl hl.1 rfl (lv_room (Nat.le_of_ble_eq_true rfl)) dX9_number_144 ⟨Nat.le_of_ble_eq_true rfl, Nat.le_of_ble_eq_true rfl⟩) hS (fun q _ h => hFc q h) hFc (fun u t H1 locs ht hvm hw_85 hB hz1 hk1 hS => ?_)
              obtain ⟨g1_86, b1_87⟩ := u
              obtain ⟨hP, hD, hK⟩ := Bq.join (wr := [(a9, .inl (cT, 400, .inl f))]) hB ht hvm hP hD [0] [1] rfl rfl (by decide) (by decide) hk1 hFc hK
              generalize H1 = H at hP hS ⊢
              have hP : va_P (dC, dI) vwCl [(a9, .inl (cT, 400, .inl f)), (h0, .inr (11, mo g1_86))] H := hP
              have hD : va_D A [(a9, .inl (cT, 400, .inl f)), (h0, .inr (11, mo g1_86))] := hD
              have hK : va_K (dC, dI) vwCl [(cT, .int)] s := hK
              try dsimp only at hw_85
              obtain ⟨k_88, k_89, k_90⟩ := hw_85
              have w_91 : g1_86 9 = .ref a9 := (k_90 9 (by decide) (by decide)).trans g_68h9
              have w_92 : g1_86 11 = .int (nI i) := (k_90 11 (by decide) (by decide)).trans g_68h11
              have w_93 : g1_86 12 = .int (nI n) := (k_90 12 (by decide) (by decide)).trans g_68h12
              have w_94 : g1_86 17 = .int (nI (tsk f n j)) := (k_90 17 (by decide) (by decide)).trans g_68h17
              have w_95 : g1_86 18 = .int (nI i) := (k_90 18 (by decide) (by decide)).trans g_68h18
              have un_96 : ∀ j : Nat, j ≠ 11 → j ≠ 13 → j ≠ 14 → j ≠ 17 → j ≠ 18 → g1_86 j = g j := fun j h11 h13 h14 h17 h18 => (k_90 j h13 h14).trans (ung_68 j h11 h17 h18)
              refine lv_iload hx hb dX9_number_147 (lv_at hl 0 rfl) ?_
              have hP9 := hP.sub (ws' := [(h0, .inr (11, mo g1_86)), (a9, .inl (cT, 400, .inl f))]) [1, 0] rfl
              have hD9 := hD.sub (ws' := [(h0, .inr (11, mo g1_86)), (a9, .inl (cT, 400, .inl f))]) [1, 0] (by decide) rfl
              have hK9 := hK.sub (tys' := []) [] rfl
              exact W.iret (v := tnu f (tsk f n j) (i - tsk f n j)) hx hb hr (fun t ht hW => ⟨⟨tnu f (tsk f n j) (i - tsk f n j), (g1_86, i, b1_87, (nI i)), rfl, ⟨Or.inr ⟨fun h => c_83 (by have := h.2.2.2.2; rw [htd] at this; exact this), hi3, k_88⟩, w_92, k_89, w_94, w_95, (fun j h11 h13 h14 h17 h18 => un_96 j h11 h13 h14 h17 h18)⟩, by rw [ht]; exact hP9, va_K.moved hW.alike hK9, hD9⟩, hS.F ht⟩) hS.2.2 dX9_number_149
    · refine lv_aload_n hx hb dX9_number_21 rfl (lv_at hl 0 rfl) ?_
      refine lv_iconst (v := 1) hx hb dX9_number_22 (by decide) ?_
      refine lv_aload_n hx hb dX9_number_23 rfl (lv_at hl 0 rfl) ?_
      refine va_get (D := (dC, dI)) (ci := 11) (v := .int (nI (tsk f n j))) (C := RX9) (T := TX9) (N := 60) hx hb hts iRX9 hown hK hP 0 rfl rfl 11 (by decide) (hts (.fieldLink RX9 141 "RecordBenchModel" "at" "I") (by decide +kernel)) (fun _ h9 => h9) ((mo_get g1_3 (by decide)).trans (congrArg some k_5)) dX9_number_24 ?_
      have hFc := va_free (wc := [(h0, .inr (11, mo g1_3))]) hD hS hA [0] rfl
      refine va_callv (va_runV (As := [.int 1, .int (nI (tsk f n j))]) (rest := []) ⟨hx, hb, hml, hown, hts⟩ (c_X9_fail l dC dI h0 g1_3 b0 w_10 1 (nI (tsk f n j)) (by decide) H.size) (cwV 2 hts gp_X9_number_X9_fail_154 rfl rfl rfl (by decide +kernel) ⟨Nat.le_of_ble_eq_true rfl, Nat.le_of_ble_eq_true rfl⟩) ⟨Pr.blind _, va_recv hK hP (ci := 11) (q0 := 0) rfl rfl, fun U hU hW => ⟨rfl, Pr.at (hP.sub (ws' := [(h0, .inr (11, mo g1_3))]) [0] rfl) (hK.sub (tys' := []) [] rfl) (hD.sub (ws' := [(h0, .inr (11, mo g1_3))]) [0] (by decide) rfl) hN hZ RO.nil hS hFc hU hW⟩⟩ rfl rfl hl.1 rfl (lv_room (Nat.le_of_ble_eq_true rfl)) dX9_number_27 ⟨Nat.le_of_ble_eq_true rfl, Nat.le_of_ble_eq_true rfl⟩) hS (fun q _ h => hFc q h) hFc (fun u t H1 locs ht hvm hw_98 hB hz1 hk1 hS => ?_)
      obtain ⟨g1_99, b1_100⟩ := u
      obtain ⟨hP, hD, hK⟩ := Bq.join (wr := [(a9, .inl (cT, 400, .inl f))]) hB ht hvm hP hD [0] [1] rfl rfl (by decide) (by decide) hk1 hFc hK
      generalize H1 = H at hP hS ⊢
      have hP : va_P (dC, dI) vwCl [(a9, .inl (cT, 400, .inl f)), (h0, .inr (11, mo g1_99))] H := hP
      have hD : va_D A [(a9, .inl (cT, 400, .inl f)), (h0, .inr (11, mo g1_99))] := hD
      have hK : va_K (dC, dI) vwCl [(cT, .int)] s := hK
      try dsimp only at hw_98
      obtain ⟨k_101, k_102, k_103⟩ := hw_98
      have w_104 : g1_99 11 = .int (nI (tsk f n j)) := (k_103 11 (by decide) (by decide)).trans k_5
      have w_105 : g1_99 17 = .int (nI (tsk f n j)) := (k_103 17 (by decide) (by decide)).trans k_6
      have w_106 : g1_99 9 = .ref a9 := (k_103 9 (by decide) (by decide)).trans w_8
      have w_107 : g1_99 12 = .int (nI n) := (k_103 12 (by decide) (by decide)).trans w_9
      have w_108 : g1_99 18 = .int x18 := (k_103 18 (by decide) (by decide)).trans w_11
      have un_109 : ∀ j : Nat, j ≠ 11 → j ≠ 13 → j ≠ 14 → j ≠ 17 → g1_99 j = g j := fun j h11 h13 h14 h17 => (k_103 j h13 h14).trans (un_12 j h11 h17)
      refine lv_iconst (v := 0) hx hb dX9_number_30 (by decide) ?_
      have hP9 := hP.sub (ws' := [(h0, .inr (11, mo g1_99)), (a9, .inl (cT, 400, .inl f))]) [1, 0] rfl
      have hD9 := hD.sub (ws' := [(h0, .inr (11, mo g1_99)), (a9, .inl (cT, 400, .inl f))]) [1, 0] (by decide) rfl
      have hK9 := hK.sub (tys' := []) [] rfl
      exact W.iret (v := 0) hx hb hr (fun t ht hW => ⟨⟨0, (g1_99, (tsk f n j), b1_100, x18), rfl, ⟨Or.inr ⟨fun h => h.2.1 c_17.symm, hq2, k_101⟩, w_104, k_102, w_105, w_108, (fun j h11 h13 h14 h17 h18 => un_109 j h11 h13 h14 h17)⟩, by rw [ht]; exact hP9, va_K.moved hW.alike hK9, hD9⟩, hS.F ht⟩) hS.2.2 dX9_number_31
  · refine W.eq (g2 := F0 m 7 ls [.int 0]) rfl ?_
    refine lv_if_eq (tgt := 21) hx hb dX9_number_7 (by decide) (fun c_110 => ?_) (fun c_110 => absurd (by decide) c_110)
    refine lv_aload_n hx hb dX9_number_21 rfl (lv_at hl 0 rfl) ?_
    refine lv_iconst (v := 1) hx hb dX9_number_22 (by decide) ?_
    refine lv_aload_n hx hb dX9_number_23 rfl (lv_at hl 0 rfl) ?_
    refine va_get (D := (dC, dI)) (ci := 11) (v := .int (nI (tsk f n j))) (C := RX9) (T := TX9) (N := 60) hx hb hts iRX9 hown hK hP 0 rfl rfl 11 (by decide) (hts (.fieldLink RX9 141 "RecordBenchModel" "at" "I") (by decide +kernel)) (fun _ h9 => h9) ((mo_get g1_3 (by decide)).trans (congrArg some k_5)) dX9_number_24 ?_
    have hFc := va_free (wc := [(h0, .inr (11, mo g1_3))]) hD hS hA [0] rfl
    refine va_callv (va_runV (As := [.int 1, .int (nI (tsk f n j))]) (rest := []) ⟨hx, hb, hml, hown, hts⟩ (c_X9_fail l dC dI h0 g1_3 b0 w_10 1 (nI (tsk f n j)) (by decide) H.size) (cwV 2 hts gp_X9_number_X9_fail_154 rfl rfl rfl (by decide +kernel) ⟨Nat.le_of_ble_eq_true rfl, Nat.le_of_ble_eq_true rfl⟩) ⟨Pr.blind _, va_recv hK hP (ci := 11) (q0 := 0) rfl rfl, fun U hU hW => ⟨rfl, Pr.at (hP.sub (ws' := [(h0, .inr (11, mo g1_3))]) [0] rfl) (hK.sub (tys' := []) [] rfl) (hD.sub (ws' := [(h0, .inr (11, mo g1_3))]) [0] (by decide) rfl) hN hZ RO.nil hS hFc hU hW⟩⟩ rfl rfl hl.1 rfl (lv_room (Nat.le_of_ble_eq_true rfl)) dX9_number_27 ⟨Nat.le_of_ble_eq_true rfl, Nat.le_of_ble_eq_true rfl⟩) hS (fun q _ h => hFc q h) hFc (fun u t H1 locs ht hvm hw_112 hB hz1 hk1 hS => ?_)
    obtain ⟨g1_113, b1_114⟩ := u
    obtain ⟨hP, hD, hK⟩ := Bq.join (wr := [(a9, .inl (cT, 400, .inl f))]) hB ht hvm hP hD [0] [1] rfl rfl (by decide) (by decide) hk1 hFc hK
    generalize H1 = H at hP hS ⊢
    have hP : va_P (dC, dI) vwCl [(a9, .inl (cT, 400, .inl f)), (h0, .inr (11, mo g1_113))] H := hP
    have hD : va_D A [(a9, .inl (cT, 400, .inl f)), (h0, .inr (11, mo g1_113))] := hD
    have hK : va_K (dC, dI) vwCl [(cT, .int)] s := hK
    try dsimp only at hw_112
    obtain ⟨k_115, k_116, k_117⟩ := hw_112
    have w_118 : g1_113 11 = .int (nI (tsk f n j)) := (k_117 11 (by decide) (by decide)).trans k_5
    have w_119 : g1_113 17 = .int (nI (tsk f n j)) := (k_117 17 (by decide) (by decide)).trans k_6
    have w_120 : g1_113 9 = .ref a9 := (k_117 9 (by decide) (by decide)).trans w_8
    have w_121 : g1_113 12 = .int (nI n) := (k_117 12 (by decide) (by decide)).trans w_9
    have w_122 : g1_113 18 = .int x18 := (k_117 18 (by decide) (by decide)).trans w_11
    have un_123 : ∀ j : Nat, j ≠ 11 → j ≠ 13 → j ≠ 14 → j ≠ 17 → g1_113 j = g j := fun j h11 h13 h14 h17 => (k_117 j h13 h14).trans (un_12 j h11 h17)
    refine lv_iconst (v := 0) hx hb dX9_number_30 (by decide) ?_
    have hP9 := hP.sub (ws' := [(h0, .inr (11, mo g1_113)), (a9, .inl (cT, 400, .inl f))]) [1, 0] rfl
    have hD9 := hD.sub (ws' := [(h0, .inr (11, mo g1_113)), (a9, .inl (cT, 400, .inl f))]) [1, 0] (by decide) rfl
    have hK9 := hK.sub (tys' := []) [] rfl
    exact W.iret (v := 0) hx hb hr (fun t ht hW => ⟨⟨0, (g1_113, (tsk f n j), b1_114, x18), rfl, ⟨Or.inr ⟨fun h => ho h.1, hq2, k_115⟩, w_118, k_116, w_119, w_122, (fun j h11 h13 h14 h17 h18 => un_123 j h11 h13 h14 h17)⟩, by rw [ht]; exact hP9, va_K.moved hW.alike hK9, hD9⟩, hS.F ht⟩) hS.2.2 dX9_number_31
