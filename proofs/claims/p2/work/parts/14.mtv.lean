theorem dX9_textValue_0 : decode cX9_textValue 0 = .ok (.aload_n 0, 1) := by decide +kernel
theorem dX9_textValue_1 : decode cX9_textValue 1 = .ok (.bipush 34, 2) := by decide +kernel
theorem dX9_textValue_100 : decode cX9_textValue 100 = .ok (.iadd, 1) := by decide +kernel
theorem dX9_textValue_101 : decode cX9_textValue 101 = .ok (.aload_n 0, 1) := by decide +kernel
theorem dX9_textValue_102 : decode cX9_textValue 102 = .ok (.getfield 39, 3) := by decide +kernel
theorem dX9_textValue_105 : decode cX9_textValue 105 = .ok (.aload_n 0, 1) := by decide +kernel
theorem dX9_textValue_106 : decode cX9_textValue 106 = .ok (.getfield 141, 3) := by decide +kernel
theorem dX9_textValue_109 : decode cX9_textValue 109 = .ok (.iaload, 1) := by decide +kernel
theorem dX9_textValue_110 : decode cX9_textValue 110 = .ok (.iastore, 1) := by decide +kernel
theorem dX9_textValue_111 : decode cX9_textValue 111 = .ok (.iinc 2 1, 3) := by decide +kernel
theorem dX9_textValue_114 : decode cX9_textValue 114 = .ok (.aload_n 0, 1) := by decide +kernel
theorem dX9_textValue_115 : decode cX9_textValue 115 = .ok (.dup, 1) := by decide +kernel
theorem dX9_textValue_116 : decode cX9_textValue 116 = .ok (.getfield 141, 3) := by decide +kernel
theorem dX9_textValue_119 : decode cX9_textValue 119 = .ok (.iconst 1, 1) := by decide +kernel
theorem dX9_textValue_12 : decode cX9_textValue 12 = .ok (.ifCond .ne 115, 3) := by decide +kernel
theorem dX9_textValue_120 : decode cX9_textValue 120 = .ok (.iadd, 1) := by decide +kernel
theorem dX9_textValue_121 : decode cX9_textValue 121 = .ok (.putfield 141, 3) := by decide +kernel
theorem dX9_textValue_124 : decode cX9_textValue 124 = .ok (.goto (-116), 3) := by decide +kernel
theorem dX9_textValue_127 : decode cX9_textValue 127 = .ok (.aload_n 0, 1) := by decide +kernel
theorem dX9_textValue_128 : decode cX9_textValue 128 = .ok (.getfield 141, 3) := by decide +kernel
theorem dX9_textValue_131 : decode cX9_textValue 131 = .ok (.aload_n 0, 1) := by decide +kernel
theorem dX9_textValue_132 : decode cX9_textValue 132 = .ok (.getfield 144, 3) := by decide +kernel
theorem dX9_textValue_135 : decode cX9_textValue 135 = .ok (.if_icmp .ne 12, 3) := by decide +kernel
theorem dX9_textValue_138 : decode cX9_textValue 138 = .ok (.aload_n 0, 1) := by decide +kernel
theorem dX9_textValue_139 : decode cX9_textValue 139 = .ok (.iconst 1, 1) := by decide +kernel
theorem dX9_textValue_140 : decode cX9_textValue 140 = .ok (.aload_n 0, 1) := by decide +kernel
theorem dX9_textValue_141 : decode cX9_textValue 141 = .ok (.getfield 141, 3) := by decide +kernel
theorem dX9_textValue_144 : decode cX9_textValue 144 = .ok (.invokevirtual 154, 3) := by decide +kernel
theorem dX9_textValue_147 : decode cX9_textValue 147 = .ok (.aload_n 0, 1) := by decide +kernel
theorem dX9_textValue_148 : decode cX9_textValue 148 = .ok (.dup, 1) := by decide +kernel
theorem dX9_textValue_149 : decode cX9_textValue 149 = .ok (.getfield 141, 3) := by decide +kernel
theorem dX9_textValue_15 : decode cX9_textValue 15 = .ok (.aload_n 0, 1) := by decide +kernel
theorem dX9_textValue_152 : decode cX9_textValue 152 = .ok (.iconst 1, 1) := by decide +kernel
theorem dX9_textValue_153 : decode cX9_textValue 153 = .ok (.iadd, 1) := by decide +kernel
theorem dX9_textValue_154 : decode cX9_textValue 154 = .ok (.putfield 141, 3) := by decide +kernel
theorem dX9_textValue_157 : decode cX9_textValue 157 = .ok (.aload_n 0, 1) := by decide +kernel
theorem dX9_textValue_158 : decode cX9_textValue 158 = .ok (.getfield 30, 3) := by decide +kernel
theorem dX9_textValue_16 : decode cX9_textValue 16 = .ok (.getfield 141, 3) := by decide +kernel
theorem dX9_textValue_161 : decode cX9_textValue 161 = .ok (.iload_n 1, 1) := by decide +kernel
theorem dX9_textValue_162 : decode cX9_textValue 162 = .ok (.iload_n 2, 1) := by decide +kernel
theorem dX9_textValue_163 : decode cX9_textValue 163 = .ok (.i2l, 1) := by decide +kernel
theorem dX9_textValue_164 : decode cX9_textValue 164 = .ok (.lastore, 1) := by decide +kernel
theorem dX9_textValue_165 : decode cX9_textValue 165 = .ok (.return_, 1) := by decide +kernel
theorem dX9_textValue_19 : decode cX9_textValue 19 = .ok (.aload_n 0, 1) := by decide +kernel
theorem dX9_textValue_20 : decode cX9_textValue 20 = .ok (.getfield 144, 3) := by decide +kernel
theorem dX9_textValue_23 : decode cX9_textValue 23 = .ok (.if_icmp .ge 104, 3) := by decide +kernel
theorem dX9_textValue_26 : decode cX9_textValue 26 = .ok (.aload_n 0, 1) := by decide +kernel
theorem dX9_textValue_27 : decode cX9_textValue 27 = .ok (.getfield 39, 3) := by decide +kernel
theorem dX9_textValue_3 : decode cX9_textValue 3 = .ok (.invokevirtual 191, 3) := by decide +kernel
theorem dX9_textValue_30 : decode cX9_textValue 30 = .ok (.aload_n 0, 1) := by decide +kernel
theorem dX9_textValue_31 : decode cX9_textValue 31 = .ok (.getfield 141, 3) := by decide +kernel
theorem dX9_textValue_34 : decode cX9_textValue 34 = .ok (.iaload, 1) := by decide +kernel
theorem dX9_textValue_35 : decode cX9_textValue 35 = .ok (.bipush 34, 2) := by decide +kernel
theorem dX9_textValue_37 : decode cX9_textValue 37 = .ok (.if_icmp .eq 90, 3) := by decide +kernel
theorem dX9_textValue_40 : decode cX9_textValue 40 = .ok (.iload_n 2, 1) := by decide +kernel
theorem dX9_textValue_41 : decode cX9_textValue 41 = .ok (.bipush 12, 2) := by decide +kernel
theorem dX9_textValue_43 : decode cX9_textValue 43 = .ok (.if_icmp .eq 31, 3) := by decide +kernel
theorem dX9_textValue_46 : decode cX9_textValue 46 = .ok (.aload_n 0, 1) := by decide +kernel
theorem dX9_textValue_47 : decode cX9_textValue 47 = .ok (.getfield 39, 3) := by decide +kernel
theorem dX9_textValue_50 : decode cX9_textValue 50 = .ok (.aload_n 0, 1) := by decide +kernel
theorem dX9_textValue_51 : decode cX9_textValue 51 = .ok (.getfield 141, 3) := by decide +kernel
theorem dX9_textValue_54 : decode cX9_textValue 54 = .ok (.iaload, 1) := by decide +kernel
theorem dX9_textValue_55 : decode cX9_textValue 55 = .ok (.bipush 32, 2) := by decide +kernel
theorem dX9_textValue_57 : decode cX9_textValue 57 = .ok (.if_icmp .lt 17, 3) := by decide +kernel
theorem dX9_textValue_6 : decode cX9_textValue 6 = .ok (.iconst 0, 1) := by decide +kernel
theorem dX9_textValue_60 : decode cX9_textValue 60 = .ok (.aload_n 0, 1) := by decide +kernel
theorem dX9_textValue_61 : decode cX9_textValue 61 = .ok (.getfield 39, 3) := by decide +kernel
theorem dX9_textValue_64 : decode cX9_textValue 64 = .ok (.aload_n 0, 1) := by decide +kernel
theorem dX9_textValue_65 : decode cX9_textValue 65 = .ok (.getfield 141, 3) := by decide +kernel
theorem dX9_textValue_68 : decode cX9_textValue 68 = .ok (.iaload, 1) := by decide +kernel
theorem dX9_textValue_69 : decode cX9_textValue 69 = .ok (.bipush 126, 2) := by decide +kernel
theorem dX9_textValue_7 : decode cX9_textValue 7 = .ok (.istore_n 2, 1) := by decide +kernel
theorem dX9_textValue_71 : decode cX9_textValue 71 = .ok (.if_icmp .le 12, 3) := by decide +kernel
theorem dX9_textValue_74 : decode cX9_textValue 74 = .ok (.aload_n 0, 1) := by decide +kernel
theorem dX9_textValue_75 : decode cX9_textValue 75 = .ok (.iconst 1, 1) := by decide +kernel
theorem dX9_textValue_76 : decode cX9_textValue 76 = .ok (.aload_n 0, 1) := by decide +kernel
theorem dX9_textValue_77 : decode cX9_textValue 77 = .ok (.getfield 141, 3) := by decide +kernel
theorem dX9_textValue_8 : decode cX9_textValue 8 = .ok (.aload_n 0, 1) := by decide +kernel
theorem dX9_textValue_80 : decode cX9_textValue 80 = .ok (.invokevirtual 154, 3) := by decide +kernel
theorem dX9_textValue_83 : decode cX9_textValue 83 = .ok (.aload_n 0, 1) := by decide +kernel
theorem dX9_textValue_84 : decode cX9_textValue 84 = .ok (.getfield 135, 3) := by decide +kernel
theorem dX9_textValue_87 : decode cX9_textValue 87 = .ok (.ifCond .eq 4, 3) := by decide +kernel
theorem dX9_textValue_9 : decode cX9_textValue 9 = .ok (.getfield 135, 3) := by decide +kernel
theorem dX9_textValue_90 : decode cX9_textValue 90 = .ok (.return_, 1) := by decide +kernel
theorem dX9_textValue_91 : decode cX9_textValue 91 = .ok (.aload_n 0, 1) := by decide +kernel
theorem dX9_textValue_92 : decode cX9_textValue 92 = .ok (.getfield 33, 3) := by decide +kernel
theorem dX9_textValue_95 : decode cX9_textValue 95 = .ok (.bipush 12, 2) := by decide +kernel
theorem dX9_textValue_97 : decode cX9_textValue 97 = .ok (.iload_n 1, 1) := by decide +kernel
theorem dX9_textValue_98 : decode cX9_textValue 98 = .ok (.imul, 1) := by decide +kernel
theorem dX9_textValue_99 : decode cX9_textValue 99 = .ok (.iload_n 2, 1) := by decide +kernel
def wp_X9_textValue : List Cond := .code yX9_textValue cX9_textValue 3 none :: ([.methodLink RX9 191 yX9_sign, .instanceMethod yX9_sign, .selects RX9 yX9_sign yX9_sign, .initialized RX9, .fieldLink RX9 135 "RecordBenchModel" "bad" "I", .fieldLink RX9 141 "RecordBenchModel" "at" "I", .fieldLink RX9 144 "RecordBenchModel" "size" "I", .methodLink RX9 154 yX9_fail, .instanceMethod yX9_fail, .selects RX9 yX9_fail yX9_fail, .fieldLink RX9 30 "RecordBenchModel" "plain" "[J", .fieldLink RX9 39 "RecordBenchModel" "tape" "[I", .fieldLink RX9 33 "RecordBenchModel" "plainText" "[I", .code yX9_sign cX9_sign 2 none, .methodLink RX9 150 yX9_next, .instanceMethod yX9_next, .selects RX9 yX9_next yX9_next, .code yX9_next cX9_next 1 (some .int), .fieldLink RX9 147 "RecordBenchModel" "begun" "I", .code yX9_fail cX9_fail 3 none, .fieldLink RX9 138 "RecordBenchModel" "badPlace" "I"] ++ wsX90)
set_option maxRecDepth 20000 in
theorem gp_X9_textValue_X9_sign_191 : GoodIn wp_X9_textValue (wsV RX9 191 RX9 yX9_sign wp_X9_sign) := goodIn_p _ [14, 18, 20] rfl (by decide +kernel)
set_option maxRecDepth 20000 in
theorem gp_X9_textValue_X9_fail_154 : GoodIn wp_X9_textValue (wsV RX9 154 RX9 yX9_fail wp_X9_fail) := goodIn_p _ [20] rfl (by decide +kernel)
set_option maxHeartbeats 4000000 in
set_option maxRecDepth 100000 in
theorem c_X9_textValue (l : Launch) (dC : Nat → ClassId) (dI : Nat → Nat → Nat) (h0 : Nat) (g : Nat → Value) (a9 : Nat) (cT : ClassId) (f : Nat → Int32) (j : Nat) (n : Nat) (a6 : Nat) (cP : ClassId) (fP : Nat → Int64) (a7 : Nat) (cX : ClassId) (fX : Nat → Int32) (F : Nat) (fh6 : g 6 = .ref a6) (fh7 : g 7 = .ref a7) (fh9 : g 9 = .ref a9) (fh11 : g 11 = .int (nI j)) (fh12 : g 12 = .int (nI n)) (fh13 : g 13 = .int 0) (hj : j ≤ n) (hn : n ≤ 400) (hF : F < 248) (sz : Nat) : Met l yX9_textValue wp_X9_textValue ({ frames := 2, cells := 0, slots := 0, locals := 51 }) (va_Pc [.ref h0, .int (nI F)] (Pr (dC, dI) [(cT, .int), (cP, .long), (cX, .int)] [] [(h0, .inr (11, mo g)), (a9, .inl (cT, 400, .inl f)), (a6, .inl (cP, 248, .inr (.inl fP))), (a7, .inl (cX, 2976, .inl fX))] sz)) (va_Qv (fun (u : (Nat → Value) × Nat × Int32 × (Nat → Int32) × (Nat → Int64)) => match u with | (g1, j1, b1, fX1, fP1) => (((tat f n (tsk f n j) = 34 ∧ tqe f n (tsk f n j + 1) < n ∧ tqe f n (tsk f n j + 1) - (tsk f n j + 1) ≤ 12 ∧ ∀ x : Nat, (tsk f n j + 1) ≤ x → x < tqe f n (tsk f n j + 1) → isT (f x)) ∧ j1 = tqe f n (tsk f n j + 1) + 1 ∧ b1 = 0 ∧ (∀ k : Nat, k < tqe f n (tsk f n j + 1) - (tsk f n j + 1) → fX1 (12 * F + k) = f ((tsk f n j + 1) + k)) ∧ (∀ x : Nat, (x < 12 * F ∨ 12 * F + 12 ≤ x) → fX1 x = fX x) ∧ fP1 = vp_updL fP (nI F).toNatClampNeg (nI (tqe f n (tsk f n j + 1) - (tsk f n j + 1))).toInt64) ∨ (¬ (tat f n (tsk f n j) = 34 ∧ tqe f n (tsk f n j + 1) < n ∧ tqe f n (tsk f n j + 1) - (tsk f n j + 1) ≤ 12 ∧ ∀ x : Nat, (tsk f n j + 1) ≤ x → x < tqe f n (tsk f n j + 1) → isT (f x)) ∧ b1 ≠ 0 ∧ (∀ x : Nat, (x < 12 * F ∨ 12 * F + 12 ≤ x) → fX1 x = fX x) ∧ ∀ x : Nat, x ≠ (nI F).toNatClampNeg → fP1 x = fP x)) ∧ (g1 11 = .int (nI j1)) ∧ (g1 13 = .int b1) ∧ (∀ j : Nat, j ≠ 11 → j ≠ 13 → j ≠ 14 → j ≠ 17 → g1 j = g j)) (Bq (dC, dI) (fun (u : (Nat → Value) × Nat × Int32 × (Nat → Int32) × (Nat → Int64)) => match u with | (g1, j1, b1, fX1, fP1) => [(h0, .inr (11, mo g1)), (a9, .inl (cT, 400, .inl f)), (a6, .inl (cP, 248, .inr (.inl fP1))), (a7, .inl (cX, 2976, .inl fX1))]) (fun (u : (Nat → Value) × Nat × Int32 × (Nat → Int32) × (Nat → Int64)) => match u with | (g1, j1, b1, fX1, fP1) => []) (va_A [(h0, .inr (11, mo g)), (a9, .inl (cT, 400, .inl f)), (a6, .inl (cP, 248, .inr (.inl fP))), (a7, .inl (cX, 2976, .inl fX))] sz)) (va_A [(h0, .inr (11, mo g)), (a9, .inl (cT, 400, .inl f)), (a6, .inl (cP, 248, .inr (.inl fP))), (a7, .inl (cX, 2976, .inl fX))] sz)) 0 0 (va_A [(h0, .inr (11, mo g)), (a9, .inl (cT, 400, .inl f)), (a6, .inl (cP, 248, .inr (.inl fP))), (a7, .inl (cX, 2976, .inl fX))] sz) := by
  refine Met.ofW (cc := cX9_textValue) (maxL := 3) (ret := none) (by decide) rfl ?_
  intro p e s m args below meth c s₁ B hml hv
  obtain ⟨rfl, hsz, hP, hK, hD0, hN, hZ, hR⟩ := hv
  have hx := B.exec
  have hb := B.bytes
  have hr := B.returns
  have hts := atoms_spec (ws := wp_X9_textValue) B.pre
  have hown : s.vm.findClass RX9 = some m.cls := findClass_of_methodNamed B.named
  have hlocks := B.notSynchronized
  have iRX9 : ∀ w ∈ u_ws RX9 TX9 60, w ∈ wp_X9_textValue := by decide +kernel
  subst hsz
  have hD := hD0.self (sz := s.heap.size)
  generalize hAe : va_A [(h0, .inr (11, mo g)), (a9, .inl (cT, 400, .inl f)), (a6, .inl (cP, 248, .inr (.inl fP))), (a7, .inl (cX, 2976, .inl fX))] s.heap.size = A at hD hZ hR ⊢
  have hA : ∀ q : Nat, s.heap.size ≤ q → A q := fun q h => by rw [← hAe]; exact Or.inr h
  have hS : va_S A s.heap s.heap [] := va_S.rf
  have hP : va_P (dC, dI) vwCl [(h0, .inr (11, mo g)), (a9, .inl (cT, 400, .inl f)), (a6, .inl (cP, 248, .inr (.inl fP))), (a7, .inl (cX, 2976, .inl fX))] s.heap := hP
  have hl := lv_entry ([.ref h0, .int (nI F)]) (n := 3) (Nat.le_of_ble_eq_true rfl)
  rw [lg_entry_eq]
  generalize (lg_sl ([.ref h0, .int (nI F)]) ++ List.replicate (3 - (lg_sl ([.ref h0, .int (nI F)])).length) Slot.unset).toArray = ls at hl ⊢
  have hl : lv_has ls 3 [(0, .ref h0), (1, .int (nI F))] := hl
  have hq1 := tsk_ge f n j
  have hq2 := tsk_le (f := f) (n := n) hj
  refine lv_aload_n hx hb dX9_textValue_0 rfl (lv_at hl 0 rfl) ?_
  refine lv_bipush (v := 34) hx hb dX9_textValue_1 (by decide) ?_
  have hFc := va_free (wc := [(h0, .inr (11, mo g)), (a9, .inl (cT, 400, .inl f))]) hD hS hA [0, 1] rfl
  refine va_callv (va_runV (As := [.int 34]) (rest := []) ⟨hx, hb, hml, hown, hts⟩ (c_X9_sign l dC dI h0 g a9 cT f j n 0 fh9 fh11 fh12 fh13 (by omega) (by omega) 34 (by decide) s.heap.size) (cwV 1 hts gp_X9_textValue_X9_sign_191 rfl rfl rfl (by decide +kernel) ⟨Nat.le_of_ble_eq_true rfl, Nat.le_of_ble_eq_true rfl⟩) ⟨Pr.blind _, va_recv hK hP (ci := 11) (q0 := 0) rfl rfl, fun U hU hW => ⟨rfl, Pr.at (hP.sub (ws' := [(h0, .inr (11, mo g)), (a9, .inl (cT, 400, .inl f))]) [0, 1] rfl) (hK.sub (tys' := [(cT, .int)]) [0] rfl) (hD.sub (ws' := [(h0, .inr (11, mo g)), (a9, .inl (cT, 400, .inl f))]) [0, 1] (by decide) rfl) hN hZ RO.nil hS hFc hU hW⟩⟩ rfl rfl hl.1 rfl (lv_room (Nat.le_of_ble_eq_true rfl)) dX9_textValue_3 ⟨Nat.le_of_ble_eq_true rfl, Nat.le_of_ble_eq_true rfl⟩) hS (fun q _ h => hFc q h) hFc (fun u t H1 locs ht hvm hw_2 hB hz1 hk1 hS => ?_)
  obtain ⟨g1_3, j1_4, b1_5⟩ := u
  obtain ⟨hP, hD, hK⟩ := Bq.join (wr := [(a6, .inl (cP, 248, .inr (.inl fP))), (a7, .inl (cX, 2976, .inl fX))]) hB ht hvm hP hD [0, 1] [2, 3] rfl rfl (by decide) (by decide) hk1 hFc hK
  generalize H1 = H at hP hS ⊢
  have hP : va_P (dC, dI) vwCl [(a6, .inl (cP, 248, .inr (.inl fP))), (a7, .inl (cX, 2976, .inl fX)), (h0, .inr (11, mo g1_3)), (a9, .inl (cT, 400, .inl f))] H := hP
  have hD : va_D A [(a6, .inl (cP, 248, .inr (.inl fP))), (a7, .inl (cX, 2976, .inl fX)), (h0, .inr (11, mo g1_3)), (a9, .inl (cT, 400, .inl f))] := hD
  have hK : va_K (dC, dI) vwCl [(cT, .int), (cP, .long), (cX, .int)] s := hK
  try dsimp only at hw_2
  obtain ⟨k_6, k_7, k_8, k_9, k_10⟩ := hw_2
  have w_11 : g1_3 6 = .ref a6 := (k_10 6 (by decide) (by decide) (by decide) (by decide)).trans fh6
  have w_12 : g1_3 7 = .ref a7 := (k_10 7 (by decide) (by decide) (by decide) (by decide)).trans fh7
  have w_13 : g1_3 9 = .ref a9 := (k_10 9 (by decide) (by decide) (by decide) (by decide)).trans fh9
  have w_14 : g1_3 12 = .int (nI n) := (k_10 12 (by decide) (by decide) (by decide) (by decide)).trans fh12
  have un_15 : ∀ j : Nat, j ≠ 11 → j ≠ 13 → j ≠ 14 → j ≠ 17 → g1_3 j = g j := fun j h11 h13 h14 h17 => (k_10 j h11 h13 h14 h17)
  rcases k_6 with ⟨hay_16, hby_16, rfl, rfl⟩ | ⟨hay_16, rfl, hcy_16⟩
  · refine lv_iconst (v := 0) hx hb dX9_textValue_6 (by decide) ?_
    refine lv_istore_n (lv' := [(2, .int 0), (0, .ref h0), (1, .int (nI F))]) hx hb dX9_textValue_7 rfl hl (by decide) rfl (fun ls hl => ?_)
    refine W_loop (σ := Nat × (Nat → Value) × (Nat → Int32)) (D := (dC, dI)) (A := A) [] (fun (u : Nat × (Nat → Value) × (Nat → Int32)) => match u with | (i, g2, fX2) => [(2, .int (nI (i - (tsk f n j + 1)))), (0, .ref h0), (1, .int (nI F))]) (fun (u : Nat × (Nat → Value) × (Nat → Int32)) => match u with | (i, g2, fX2) => [(h0, .inr (11, mo g2)), (a9, .inl (cT, 400, .inl f)), (a6, .inl (cP, 248, .inr (.inl fP))), (a7, .inl (cX, 2976, .inl fX2))]) (fun (u : Nat × (Nat → Value) × (Nat → Int32)) => match u with | (i, g2, fX2) => ((tsk f n j + 1) ≤ i) ∧ (i - (tsk f n j + 1) ≤ 12) ∧ (i ≤ n) ∧ (tqe f n i = tqe f n (tsk f n j + 1)) ∧ (∀ x : Nat, (tsk f n j + 1) ≤ x → x < i → isT (f x)) ∧ (∀ k : Nat, k < i - (tsk f n j + 1) → fX2 (12 * F + k) = f ((tsk f n j + 1) + k)) ∧ (∀ x : Nat, (x < 12 * F ∨ 12 * F + 12 ≤ x) → fX2 x = fX x) ∧ (g2 6 = .ref a6) ∧ (g2 7 = .ref a7) ∧ (g2 9 = .ref a9) ∧ (g2 11 = .int (nI i)) ∧ (g2 12 = .int (nI n)) ∧ (g2 13 = .int 0) ∧ (∀ k : Nat, k ≠ 11 → k ≠ 13 → k ≠ 14 → k ≠ 17 → g2 k = g k)) (fun (u : Nat × (Nat → Value) × (Nat → Int32)) => match u with | (i, g2, fX2) => n - i) ?_ ((tsk f n j + 1), g1_3, fX) ⟨(Nat.le_refl _), (by omega), (by omega), rfl, (fun x h1 h2 => absurd h1 (by omega)), (fun k h => absurd h (by omega)), (fun _ _ => rfl), w_11, w_12, w_13, k_7, w_14, k_8, (fun k h1 h2 h3 h4 => un_15 k h1 h2 h3 h4)⟩ _ _ _ (hP.sub (ws' := [(h0, .inr (11, mo g1_3)), (a9, .inl (cT, 400, .inl f)), (a6, .inl (cP, 248, .inr (.inl fP))), (a7, .inl (cX, 2976, .inl fX))]) [2, 3, 0, 1] rfl) (hD.sub (ws' := [(h0, .inr (11, mo g1_3)), (a9, .inl (cT, 400, .inl f)), (a6, .inl (cP, 248, .inr (.inl fP))), (a7, .inl (cX, 2976, .inl fX))]) [2, 3, 0, 1] (by decide) rfl) hS (by show lv_has _ _ [(2, .int (nI ((tsk f n j + 1) - (tsk f n j + 1)))), (0, .ref h0), (1, .int (nI F))]; rw [Nat.sub_self]; exact lv_sub hl [0, 1, 2] rfl)
    intro u hI H locs ls hP hD hS hl ih
    obtain ⟨i, g2, fX2⟩ := u
    try dsimp only at hI
    obtain ⟨hi1, hi2, hi3, hqe, hok, hx1, hx2, h6, h7, h9, h11, h12, h13, hun⟩ := hI
    have hP : va_P (dC, dI) vwCl [(h0, .inr (11, mo g2)), (a9, .inl (cT, 400, .inl f)), (a6, .inl (cP, 248, .inr (.inl fP))), (a7, .inl (cX, 2976, .inl fX2))] H := hP
    have hD : va_D A [(h0, .inr (11, mo g2)), (a9, .inl (cT, 400, .inl f)), (a6, .inl (cP, 248, .inr (.inl fP))), (a7, .inl (cX, 2976, .inl fX2))] := hD
    have hl : lv_has ls 3 [(2, .int (nI (i - (tsk f n j + 1)))), (0, .ref h0), (1, .int (nI F))] := hl
    refine lv_aload_n hx hb dX9_textValue_8 rfl (lv_at hl 1 rfl) ?_
    refine va_get (D := (dC, dI)) (ci := 11) (v := .int 0) (C := RX9) (T := TX9) (N := 60) hx hb hts iRX9 hown hK hP 0 rfl rfl 13 (by decide) (hts (.fieldLink RX9 135 "RecordBenchModel" "bad" "I") (by decide +kernel)) (fun _ h9 => h9) ((mo_get g2 (by decide)).trans (congrArg some h13)) dX9_textValue_9 ?_
    refine lv_if_ne (tgt := 127) hx hb dX9_textValue_12 (by decide) (fun c_17 => absurd (by decide) c_17) (fun c_17 => ?_)
    refine lv_aload_n hx hb dX9_textValue_15 rfl (lv_at hl 1 rfl) ?_
    refine va_get (D := (dC, dI)) (ci := 11) (v := .int (nI i)) (C := RX9) (T := TX9) (N := 60) hx hb hts iRX9 hown hK hP 0 rfl rfl 11 (by decide) (hts (.fieldLink RX9 141 "RecordBenchModel" "at" "I") (by decide +kernel)) (fun _ h9 => h9) ((mo_get g2 (by decide)).trans (congrArg some h11)) dX9_textValue_16 ?_
    refine lv_aload_n hx hb dX9_textValue_19 rfl (lv_at hl 1 rfl) ?_
    refine va_get (D := (dC, dI)) (ci := 11) (v := .int (nI n)) (C := RX9) (T := TX9) (N := 60) hx hb hts iRX9 hown hK hP 0 rfl rfl 12 (by decide) (hts (.fieldLink RX9 144 "RecordBenchModel" "size" "I") (by decide +kernel)) (fun _ h9 => h9) ((mo_get g2 (by decide)).trans (congrArg some h12)) dX9_textValue_20 ?_
    refine lv_icmp_ge (tgt := 127) hx hb dX9_textValue_23 (by decide) (fun c_18 => ?_) (fun c_18 => ?_)
    · have hge : n ≤ i := nI_leN (by omega) (by omega) c_18
      refine lv_aload_n hx hb dX9_textValue_127 rfl (lv_at hl 1 rfl) ?_
      refine va_get (D := (dC, dI)) (ci := 11) (v := .int (nI i)) (C := RX9) (T := TX9) (N := 60) hx hb hts iRX9 hown hK hP 0 rfl rfl 11 (by decide) (hts (.fieldLink RX9 141 "RecordBenchModel" "at" "I") (by decide +kernel)) (fun _ h9 => h9) ((mo_get g2 (by decide)).trans (congrArg some h11)) dX9_textValue_128 ?_
      refine lv_aload_n hx hb dX9_textValue_131 rfl (lv_at hl 1 rfl) ?_
      refine va_get (D := (dC, dI)) (ci := 11) (v := .int (nI n)) (C := RX9) (T := TX9) (N := 60) hx hb hts iRX9 hown hK hP 0 rfl rfl 12 (by decide) (hts (.fieldLink RX9 144 "RecordBenchModel" "size" "I") (by decide +kernel)) (fun _ h9 => h9) ((mo_get g2 (by decide)).trans (congrArg some h12)) dX9_textValue_132 ?_
      refine lv_icmp_ne (tgt := 147) hx hb dX9_textValue_135 (by decide) (fun c_19 => absurd (by rw [show i = n by omega]) c_19) (fun c_19 => ?_)
      refine lv_aload_n hx hb dX9_textValue_138 rfl (lv_at hl 1 rfl) ?_
      refine lv_iconst (v := 1) hx hb dX9_textValue_139 (by decide) ?_
      refine lv_aload_n hx hb dX9_textValue_140 rfl (lv_at hl 1 rfl) ?_
      refine va_get (D := (dC, dI)) (ci := 11) (v := .int (nI i)) (C := RX9) (T := TX9) (N := 60) hx hb hts iRX9 hown hK hP 0 rfl rfl 11 (by decide) (hts (.fieldLink RX9 141 "RecordBenchModel" "at" "I") (by decide +kernel)) (fun _ h9 => h9) ((mo_get g2 (by decide)).trans (congrArg some h11)) dX9_textValue_141 ?_
      have hFc := va_free (wc := [(h0, .inr (11, mo g2))]) hD hS hA [0] rfl
      refine va_callv (va_runV (As := [.int 1, .int (nI i)]) (rest := []) ⟨hx, hb, hml, hown, hts⟩ (c_X9_fail l dC dI h0 g2 0 h13 1 (nI i) (by decide) H.size) (cwV 2 hts gp_X9_textValue_X9_fail_154 rfl rfl rfl (by decide +kernel) ⟨Nat.le_of_ble_eq_true rfl, Nat.le_of_ble_eq_true rfl⟩) ⟨Pr.blind _, va_recv hK hP (ci := 11) (q0 := 0) rfl rfl, fun U hU hW => ⟨rfl, Pr.at (hP.sub (ws' := [(h0, .inr (11, mo g2))]) [0] rfl) (hK.sub (tys' := []) [] rfl) (hD.sub (ws' := [(h0, .inr (11, mo g2))]) [0] (by decide) rfl) hN hZ RO.nil hS hFc hU hW⟩⟩ rfl rfl hl.1 rfl (lv_room (Nat.le_of_ble_eq_true rfl)) dX9_textValue_144 ⟨Nat.le_of_ble_eq_true rfl, Nat.le_of_ble_eq_true rfl⟩) hS (fun q _ h => hFc q h) hFc (fun u t H1 locs ht hvm hw_21 hB hz1 hk1 hS => ?_)
      obtain ⟨g1_22, b1_23⟩ := u
      obtain ⟨hP, hD, hK⟩ := Bq.join (wr := [(a9, .inl (cT, 400, .inl f)), (a6, .inl (cP, 248, .inr (.inl fP))), (a7, .inl (cX, 2976, .inl fX2))]) hB ht hvm hP hD [0] [1, 2, 3] rfl rfl (by decide) (by decide) hk1 hFc hK
      generalize H1 = H at hP hS ⊢
      have hP : va_P (dC, dI) vwCl [(a9, .inl (cT, 400, .inl f)), (a6, .inl (cP, 248, .inr (.inl fP))), (a7, .inl (cX, 2976, .inl fX2)), (h0, .inr (11, mo g1_22))] H := hP
      have hD : va_D A [(a9, .inl (cT, 400, .inl f)), (a6, .inl (cP, 248, .inr (.inl fP))), (a7, .inl (cX, 2976, .inl fX2)), (h0, .inr (11, mo g1_22))] := hD
      have hK : va_K (dC, dI) vwCl [(cT, .int), (cP, .long), (cX, .int)] s := hK
      try dsimp only at hw_21
      obtain ⟨k_24, k_25, k_26⟩ := hw_21
      have w_27 : g1_22 6 = .ref a6 := (k_26 6 (by decide) (by decide)).trans h6
      have w_28 : g1_22 7 = .ref a7 := (k_26 7 (by decide) (by decide)).trans h7
      have w_29 : g1_22 9 = .ref a9 := (k_26 9 (by decide) (by decide)).trans h9
      have w_30 : g1_22 11 = .int (nI i) := (k_26 11 (by decide) (by decide)).trans h11
      have w_31 : g1_22 12 = .int (nI n) := (k_26 12 (by decide) (by decide)).trans h12
      have un_32 : ∀ j : Nat, j ≠ 11 → j ≠ 13 → j ≠ 14 → j ≠ 17 → g1_22 j = g j := fun j h11 h13 h14 h17 => (k_26 j h13 h14).trans (hun j h11 h13 h14 h17)
      refine lv_aload_n hx hb dX9_textValue_147 rfl (lv_at hl 1 rfl) ?_
      refine lv_dup hx hb dX9_textValue_148 rfl ?_
      refine va_get (D := (dC, dI)) (ci := 11) (v := .int (nI i)) (C := RX9) (T := TX9) (N := 60) hx hb hts iRX9 hown hK hP 3 rfl rfl 11 (by decide) (hts (.fieldLink RX9 141 "RecordBenchModel" "at" "I") (by decide +kernel)) (fun _ h9 => h9) ((mo_get g1_22 (by decide)).trans (congrArg some w_30)) dX9_textValue_149 ?_
      refine lv_iconst (v := 1) hx hb dX9_textValue_152 (by decide) ?_
      refine lv_iadd hx hb dX9_textValue_153 ?_
      refine W_toi (y := nI (i + 1)) (nI_1 _) ?_
      refine va_put (D := (dC, dI)) (ci := 11) (v := .int (nI (i + 1))) (ty := .int) (C := RX9) (T := TX9) (N := 60) hx hb hts iRX9 tyX9 tyX9_ok nmX9 hown hK hP hD hS 3 rfl rfl 11 (by decide) (hts (.fieldLink RX9 141 "RecordBenchModel" "at" "I") (by decide +kernel)) (fun _ h9 => h9) rfl (by decide +kernel) rfl rfl (by rw [mo_len]; decide) dX9_textValue_154 (fun H locs hP hD hS => ?_)
      obtain ⟨g_33, eg_33⟩ : ∃ y, y = va_up g1_22 11 (.int (nI (i + 1))) := ⟨_, rfl⟩
      have hP : va_P (dC, dI) vwCl [(a9, .inl (cT, 400, .inl f)), (a6, .inl (cP, 248, .inr (.inl fP))), (a7, .inl (cX, 2976, .inl fX2)), (h0, .inr (11, mo g_33))] H := by rw [eg_33, ← mo_set g1_22 (by decide)]; exact hP
      have hD : va_D A [(a9, .inl (cT, 400, .inl f)), (a6, .inl (cP, 248, .inr (.inl fP))), (a7, .inl (cX, 2976, .inl fX2)), (h0, .inr (11, mo g_33))] := by rw [eg_33, ← mo_set g1_22 (by decide)]; exact hD
      have g_33h13 : g_33 13 = .int b1_23 := by rw [eg_33, va_up_ne _ _ (by decide)]; exact k_25
      have g_33h6 : g_33 6 = .ref a6 := by rw [eg_33, va_up_ne _ _ (by decide)]; exact w_27
      have g_33h7 : g_33 7 = .ref a7 := by rw [eg_33, va_up_ne _ _ (by decide)]; exact w_28
      have g_33h9 : g_33 9 = .ref a9 := by rw [eg_33, va_up_ne _ _ (by decide)]; exact w_29
      have g_33h12 : g_33 12 = .int (nI n) := by rw [eg_33, va_up_ne _ _ (by decide)]; exact w_31
      have g_33h11 : g_33 11 = .int (nI (i + 1)) := by rw [eg_33, va_up_self]
      have ung_33 : ∀ j : Nat, j ≠ 11 → j ≠ 13 → j ≠ 14 → j ≠ 17 → g_33 j = g j := fun j h11 h13 h14 h17 => by rw [eg_33, va_up_ne _ _ h11]; exact un_32 j h11 h13 h14 h17
      refine lv_aload_n hx hb dX9_textValue_157 rfl (lv_at hl 1 rfl) ?_
      refine va_get (D := (dC, dI)) (ci := 11) (v := .ref a6) (C := RX9) (T := TX9) (N := 60) hx hb hts iRX9 hown hK hP 3 rfl rfl 6 (by decide) (hts (.fieldLink RX9 30 "RecordBenchModel" "plain" "[J") (by decide +kernel)) (fun _ h9 => h9) ((mo_get g_33 (by decide)).trans (congrArg some g_33h6)) dX9_textValue_158 ?_
      refine lv_iload_n hx hb dX9_textValue_161 rfl (lv_at hl 2 rfl) ?_
      refine lv_iload_n hx hb dX9_textValue_162 rfl (lv_at hl 0 rfl) ?_
      refine lv_i2l (v := (nI (i - (tsk f n j + 1))).toInt64) hx hb dX9_textValue_163 rfl ?_
      refine va_last hx hb hK hP hD hS 1 1 rfl rfl (vp_in_nI hF (by decide)) dX9_textValue_164 (fun H locs hP hD hS => ?_)
      obtain ⟨f_35, ef_35⟩ : ∃ y : Nat → Int64, y = vp_updL fP (nI F : Int32).toNatClampNeg ((nI (i - (tsk f n j + 1))).toInt64) := ⟨_, rfl⟩
      have hP : va_P (dC, dI) vwCl [(a9, .inl (cT, 400, .inl f)), (a6, .inl (cP, 248, .inr (.inl f_35))), (a7, .inl (cX, 2976, .inl fX2)), (h0, .inr (11, mo g_33))] H := by rw [ef_35]; exact hP
      have hD : va_D A [(a9, .inl (cT, 400, .inl f)), (a6, .inl (cP, 248, .inr (.inl f_35))), (a7, .inl (cX, 2976, .inl fX2)), (h0, .inr (11, mo g_33))] := by rw [ef_35]; exact hD
      have hP9 := hP.sub (ws' := [(h0, .inr (11, mo g_33)), (a9, .inl (cT, 400, .inl f)), (a6, .inl (cP, 248, .inr (.inl f_35))), (a7, .inl (cX, 2976, .inl fX2))]) [3, 0, 1, 2] rfl
      have hD9 := hD.sub (ws' := [(h0, .inr (11, mo g_33)), (a9, .inl (cT, 400, .inl f)), (a6, .inl (cP, 248, .inr (.inl f_35))), (a7, .inl (cX, 2976, .inl fX2))]) [3, 0, 1, 2] (by decide) rfl
      have hK9 := hK.sub (tys' := []) [] rfl
      exact W.vret hx hb hr (fun t ht hW => ⟨⟨(g_33, (i + 1), b1_23, fX2, f_35), rfl, ⟨Or.inr ⟨fun h => absurd h.2.1 (by rw [← hqe, tqe_no (fun h => absurd h.1 (by omega))]; omega), k_24, hx2, fun x hx => by rw [ef_35]; exact pk_uLn hx⟩, g_33h11, g_33h13, (fun j h11 h13 h14 h17 => ung_33 j h11 h13 h14 h17)⟩, by rw [ht]; exact hP9, va_K.moved hW.alike hK9, hD9⟩, hS.F ht⟩) hS.2.2 dX9_textValue_165
    · have hlt : i < n := nI_ltN (by omega) (by omega) c_18
      refine lv_aload_n hx hb dX9_textValue_26 rfl (lv_at hl 1 rfl) ?_
      refine va_get (D := (dC, dI)) (ci := 11) (v := .ref a9) (C := RX9) (T := TX9) (N := 60) hx hb hts iRX9 hown hK hP 0 rfl rfl 9 (by decide) (hts (.fieldLink RX9 39 "RecordBenchModel" "tape" "[I") (by decide +kernel)) (fun _ h9 => h9) ((mo_get g2 (by decide)).trans (congrArg some h9)) dX9_textValue_27 ?_
      refine lv_aload_n hx hb dX9_textValue_30 rfl (lv_at hl 1 rfl) ?_
      refine va_get (D := (dC, dI)) (ci := 11) (v := .int (nI i)) (C := RX9) (T := TX9) (N := 60) hx hb hts iRX9 hown hK hP 0 rfl rfl 11 (by decide) (hts (.fieldLink RX9 141 "RecordBenchModel" "at" "I") (by decide +kernel)) (fun _ h9 => h9) ((mo_get g2 (by decide)).trans (congrArg some h11)) dX9_textValue_31 ?_
      refine va_iald hx hb hK hP 1 0 rfl rfl (vp_in_nI (by omega) (by decide)) dX9_textValue_34 ?_
      refine W_toi (y := f i) (by rw [nI_clamp (by omega)]) ?_
      refine lv_bipush (v := 34) hx hb dX9_textValue_35 (by decide) ?_
      refine lv_icmp_eq (tgt := 127) hx hb dX9_textValue_37 (by decide) (fun c_36 => ?_) (fun c_36 => ?_)
      · have hqi : tqe f n (tsk f n j + 1) = i := hqe.symm.trans (tqe_no (fun h => h.2 c_36))
        refine lv_aload_n hx hb dX9_textValue_127 rfl (lv_at hl 1 rfl) ?_
        refine va_get (D := (dC, dI)) (ci := 11) (v := .int (nI i)) (C := RX9) (T := TX9) (N := 60) hx hb hts iRX9 hown hK hP 0 rfl rfl 11 (by decide) (hts (.fieldLink RX9 141 "RecordBenchModel" "at" "I") (by decide +kernel)) (fun _ h9 => h9) ((mo_get g2 (by decide)).trans (congrArg some h11)) dX9_textValue_128 ?_
        refine lv_aload_n hx hb dX9_textValue_131 rfl (lv_at hl 1 rfl) ?_
        refine va_get (D := (dC, dI)) (ci := 11) (v := .int (nI n)) (C := RX9) (T := TX9) (N := 60) hx hb hts iRX9 hown hK hP 0 rfl rfl 12 (by decide) (hts (.fieldLink RX9 144 "RecordBenchModel" "size" "I") (by decide +kernel)) (fun _ h9 => h9) ((mo_get g2 (by decide)).trans (congrArg some h12)) dX9_textValue_132 ?_
        refine lv_icmp_ne (tgt := 147) hx hb dX9_textValue_135 (by decide) (fun c_37 => ?_) (fun c_37 => absurd c_37 (fun h => absurd ((nI_eq (by omega) (by omega)).mp h) (by omega)))
        refine lv_aload_n hx hb dX9_textValue_147 rfl (lv_at hl 1 rfl) ?_
        refine lv_dup hx hb dX9_textValue_148 rfl ?_
        refine va_get (D := (dC, dI)) (ci := 11) (v := .int (nI i)) (C := RX9) (T := TX9) (N := 60) hx hb hts iRX9 hown hK hP 0 rfl rfl 11 (by decide) (hts (.fieldLink RX9 141 "RecordBenchModel" "at" "I") (by decide +kernel)) (fun _ h9 => h9) ((mo_get g2 (by decide)).trans (congrArg some h11)) dX9_textValue_149 ?_
        refine lv_iconst (v := 1) hx hb dX9_textValue_152 (by decide) ?_
        refine lv_iadd hx hb dX9_textValue_153 ?_
        refine W_toi (y := nI (i + 1)) (nI_1 _) ?_
        refine va_put (D := (dC, dI)) (ci := 11) (v := .int (nI (i + 1))) (ty := .int) (C := RX9) (T := TX9) (N := 60) hx hb hts iRX9 tyX9 tyX9_ok nmX9 hown hK hP hD hS 0 rfl rfl 11 (by decide) (hts (.fieldLink RX9 141 "RecordBenchModel" "at" "I") (by decide +kernel)) (fun _ h9 => h9) rfl (by decide +kernel) rfl rfl (by rw [mo_len]; decide) dX9_textValue_154 (fun H locs hP hD hS => ?_)
        obtain ⟨g_38, eg_38⟩ : ∃ y, y = va_up g2 11 (.int (nI (i + 1))) := ⟨_, rfl⟩
        have hP : va_P (dC, dI) vwCl [(h0, .inr (11, mo g_38)), (a9, .inl (cT, 400, .inl f)), (a6, .inl (cP, 248, .inr (.inl fP))), (a7, .inl (cX, 2976, .inl fX2))] H := by rw [eg_38, ← mo_set g2 (by decide)]; exact hP
        have hD : va_D A [(h0, .inr (11, mo g_38)), (a9, .inl (cT, 400, .inl f)), (a6, .inl (cP, 248, .inr (.inl fP))), (a7, .inl (cX, 2976, .inl fX2))] := by rw [eg_38, ← mo_set g2 (by decide)]; exact hD
        have g_38h6 : g_38 6 = .ref a6 := by rw [eg_38, va_up_ne _ _ (by decide)]; exact h6
        have g_38h7 : g_38 7 = .ref a7 := by rw [eg_38, va_up_ne _ _ (by decide)]; exact h7
        have g_38h9 : g_38 9 = .ref a9 := by rw [eg_38, va_up_ne _ _ (by decide)]; exact h9
        have g_38h12 : g_38 12 = .int (nI n) := by rw [eg_38, va_up_ne _ _ (by decide)]; exact h12
        have g_38h13 : g_38 13 = .int 0 := by rw [eg_38, va_up_ne _ _ (by decide)]; exact h13
        have g_38h11 : g_38 11 = .int (nI (i + 1)) := by rw [eg_38, va_up_self]
        have ung_38 : ∀ j : Nat, j ≠ 11 → j ≠ 13 → j ≠ 14 → j ≠ 17 → g_38 j = g j := fun j h11 h13 h14 h17 => by rw [eg_38, va_up_ne _ _ h11]; exact hun j h11 h13 h14 h17
        refine lv_aload_n hx hb dX9_textValue_157 rfl (lv_at hl 1 rfl) ?_
        refine va_get (D := (dC, dI)) (ci := 11) (v := .ref a6) (C := RX9) (T := TX9) (N := 60) hx hb hts iRX9 hown hK hP 0 rfl rfl 6 (by decide) (hts (.fieldLink RX9 30 "RecordBenchModel" "plain" "[J") (by decide +kernel)) (fun _ h9 => h9) ((mo_get g_38 (by decide)).trans (congrArg some g_38h6)) dX9_textValue_158 ?_
        refine lv_iload_n hx hb dX9_textValue_161 rfl (lv_at hl 2 rfl) ?_
        refine lv_iload_n hx hb dX9_textValue_162 rfl (lv_at hl 0 rfl) ?_
        refine lv_i2l (v := (nI (i - (tsk f n j + 1))).toInt64) hx hb dX9_textValue_163 rfl ?_
        refine va_last hx hb hK hP hD hS 2 1 rfl rfl (vp_in_nI hF (by decide)) dX9_textValue_164 (fun H locs hP hD hS => ?_)
        obtain ⟨f_40, ef_40⟩ : ∃ y : Nat → Int64, y = vp_updL fP (nI F : Int32).toNatClampNeg ((nI (i - (tsk f n j + 1))).toInt64) := ⟨_, rfl⟩
        have hP : va_P (dC, dI) vwCl [(h0, .inr (11, mo g_38)), (a9, .inl (cT, 400, .inl f)), (a6, .inl (cP, 248, .inr (.inl f_40))), (a7, .inl (cX, 2976, .inl fX2))] H := by rw [ef_40]; exact hP
        have hD : va_D A [(h0, .inr (11, mo g_38)), (a9, .inl (cT, 400, .inl f)), (a6, .inl (cP, 248, .inr (.inl f_40))), (a7, .inl (cX, 2976, .inl fX2))] := by rw [ef_40]; exact hD
        have hP9 := hP.sub (ws' := [(h0, .inr (11, mo g_38)), (a9, .inl (cT, 400, .inl f)), (a6, .inl (cP, 248, .inr (.inl f_40))), (a7, .inl (cX, 2976, .inl fX2))]) [0, 1, 2, 3] rfl
        have hD9 := hD.sub (ws' := [(h0, .inr (11, mo g_38)), (a9, .inl (cT, 400, .inl f)), (a6, .inl (cP, 248, .inr (.inl f_40))), (a7, .inl (cX, 2976, .inl fX2))]) [0, 1, 2, 3] (by decide) rfl
        have hK9 := hK.sub (tys' := []) [] rfl
        exact W.vret hx hb hr (fun t ht hW => ⟨⟨(g_38, (i + 1), 0, fX2, f_40), rfl, ⟨Or.inl ⟨⟨hay_16, by rw [hqi]; exact hlt, by rw [hqi]; exact hi2, by rw [hqi]; exact hok⟩, by rw [hqi], rfl, by rw [hqi]; exact hx1, hx2, by rw [ef_40, hqi]⟩, g_38h11, g_38h13, (fun j h11 h13 h14 h17 => ung_38 j h11 h13 h14 h17)⟩, by rw [ht]; exact hP9, va_K.moved hW.alike hK9, hD9⟩, hS.F ht⟩) hS.2.2 dX9_textValue_165
      · have hnq : ¬ f i = 34 := c_36
        refine lv_iload_n hx hb dX9_textValue_40 rfl (lv_at hl 0 rfl) ?_
        refine lv_bipush (v := 12) hx hb dX9_textValue_41 (by decide) ?_
        refine lv_icmp_eq (tgt := 74) hx hb dX9_textValue_43 (by decide) (fun c_41 => ?_) (fun c_41 => ?_)
        · refine lv_aload_n hx hb dX9_textValue_74 rfl (lv_at hl 1 rfl) ?_
          refine lv_iconst (v := 1) hx hb dX9_textValue_75 (by decide) ?_
          refine lv_aload_n hx hb dX9_textValue_76 rfl (lv_at hl 1 rfl) ?_
          refine va_get (D := (dC, dI)) (ci := 11) (v := .int (nI i)) (C := RX9) (T := TX9) (N := 60) hx hb hts iRX9 hown hK hP 0 rfl rfl 11 (by decide) (hts (.fieldLink RX9 141 "RecordBenchModel" "at" "I") (by decide +kernel)) (fun _ h9 => h9) ((mo_get g2 (by decide)).trans (congrArg some h11)) dX9_textValue_77 ?_
          have hFc := va_free (wc := [(h0, .inr (11, mo g2))]) hD hS hA [0] rfl
          refine va_callv (va_runV (As := [.int 1, .int (nI i)]) (rest := []) ⟨hx, hb, hml, hown, hts⟩ (c_X9_fail l dC dI h0 g2 0 h13 1 (nI i) (by decide) H.size) (cwV 2 hts gp_X9_textValue_X9_fail_154 rfl rfl rfl (by decide +kernel) ⟨Nat.le_of_ble_eq_true rfl, Nat.le_of_ble_eq_true rfl⟩) ⟨Pr.blind _, va_recv hK hP (ci := 11) (q0 := 0) rfl rfl, fun U hU hW => ⟨rfl, Pr.at (hP.sub (ws' := [(h0, .inr (11, mo g2))]) [0] rfl) (hK.sub (tys' := []) [] rfl) (hD.sub (ws' := [(h0, .inr (11, mo g2))]) [0] (by decide) rfl) hN hZ RO.nil hS hFc hU hW⟩⟩ rfl rfl hl.1 rfl (lv_room (Nat.le_of_ble_eq_true rfl)) dX9_textValue_80 ⟨Nat.le_of_ble_eq_true rfl, Nat.le_of_ble_eq_true rfl⟩) hS (fun q _ h => hFc q h) hFc (fun u t H1 locs ht hvm hw_43 hB hz1 hk1 hS => ?_)
          obtain ⟨g1_44, b1_45⟩ := u
          obtain ⟨hP, hD, hK⟩ := Bq.join (wr := [(a9, .inl (cT, 400, .inl f)), (a6, .inl (cP, 248, .inr (.inl fP))), (a7, .inl (cX, 2976, .inl fX2))]) hB ht hvm hP hD [0] [1, 2, 3] rfl rfl (by decide) (by decide) hk1 hFc hK
          generalize H1 = H at hP hS ⊢
          have hP : va_P (dC, dI) vwCl [(a9, .inl (cT, 400, .inl f)), (a6, .inl (cP, 248, .inr (.inl fP))), (a7, .inl (cX, 2976, .inl fX2)), (h0, .inr (11, mo g1_44))] H := hP
          have hD : va_D A [(a9, .inl (cT, 400, .inl f)), (a6, .inl (cP, 248, .inr (.inl fP))), (a7, .inl (cX, 2976, .inl fX2)), (h0, .inr (11, mo g1_44))] := hD
          have hK : va_K (dC, dI) vwCl [(cT, .int), (cP, .long), (cX, .int)] s := hK
          try dsimp only at hw_43
          obtain ⟨k_46, k_47, k_48⟩ := hw_43
          have w_49 : g1_44 6 = .ref a6 := (k_48 6 (by decide) (by decide)).trans h6
          have w_50 : g1_44 7 = .ref a7 := (k_48 7 (by decide) (by decide)).trans h7
          have w_51 : g1_44 9 = .ref a9 := (k_48 9 (by decide) (by decide)).trans h9
          have w_52 : g1_44 11 = .int (nI i) := (k_48 11 (by decide) (by decide)).trans h11
          have w_53 : g1_44 12 = .int (nI n) := (k_48 12 (by decide) (by decide)).trans h12
          have un_54 : ∀ j : Nat, j ≠ 11 → j ≠ 13 → j ≠ 14 → j ≠ 17 → g1_44 j = g j := fun j h11 h13 h14 h17 => (k_48 j h13 h14).trans (hun j h11 h13 h14 h17)
          refine lv_aload_n hx hb dX9_textValue_83 rfl (lv_at hl 1 rfl) ?_
          refine va_get (D := (dC, dI)) (ci := 11) (v := .int b1_45) (C := RX9) (T := TX9) (N := 60) hx hb hts iRX9 hown hK hP 3 rfl rfl 13 (by decide) (hts (.fieldLink RX9 135 "RecordBenchModel" "bad" "I") (by decide +kernel)) (fun _ h9 => h9) ((mo_get g1_44 (by decide)).trans (congrArg some k_47)) dX9_textValue_84 ?_
          refine lv_if_eq (tgt := 91) hx hb dX9_textValue_87 (by decide) (fun c_55 => absurd c_55 k_46) (fun c_55 => ?_)
          have hP9 := hP.sub (ws' := [(h0, .inr (11, mo g1_44)), (a9, .inl (cT, 400, .inl f)), (a6, .inl (cP, 248, .inr (.inl fP))), (a7, .inl (cX, 2976, .inl fX2))]) [3, 0, 1, 2] rfl
          have hD9 := hD.sub (ws' := [(h0, .inr (11, mo g1_44)), (a9, .inl (cT, 400, .inl f)), (a6, .inl (cP, 248, .inr (.inl fP))), (a7, .inl (cX, 2976, .inl fX2))]) [3, 0, 1, 2] (by decide) rfl
          have hK9 := hK.sub (tys' := []) [] rfl
          exact W.vret hx hb hr (fun t ht hW => ⟨⟨(g1_44, i, b1_45, fX2, fP), rfl, ⟨Or.inr ⟨fun h => absurd h.2.2.1 (by have e2 : i - (tsk f n j + 1) = 12 := (nI_eq (b := 12) (by omega) (by decide)).mp c_41; rw [← hqe, tqe_go hlt hnq]; have := tqe_ge f n (i + 1); omega), k_46, hx2, fun _ _ => rfl⟩, w_52, k_47, (fun j h11 h13 h14 h17 => un_54 j h11 h13 h14 h17)⟩, by rw [ht]; exact hP9, va_K.moved hW.alike hK9, hD9⟩, hS.F ht⟩) hS.2.2 dX9_textValue_90
        · refine lv_aload_n hx hb dX9_textValue_46 rfl (lv_at hl 1 rfl) ?_
          refine va_get (D := (dC, dI)) (ci := 11) (v := .ref a9) (C := RX9) (T := TX9) (N := 60) hx hb hts iRX9 hown hK hP 0 rfl rfl 9 (by decide) (hts (.fieldLink RX9 39 "RecordBenchModel" "tape" "[I") (by decide +kernel)) (fun _ h9 => h9) ((mo_get g2 (by decide)).trans (congrArg some h9)) dX9_textValue_47 ?_
          refine lv_aload_n hx hb dX9_textValue_50 rfl (lv_at hl 1 rfl) ?_
          refine va_get (D := (dC, dI)) (ci := 11) (v := .int (nI i)) (C := RX9) (T := TX9) (N := 60) hx hb hts iRX9 hown hK hP 0 rfl rfl 11 (by decide) (hts (.fieldLink RX9 141 "RecordBenchModel" "at" "I") (by decide +kernel)) (fun _ h9 => h9) ((mo_get g2 (by decide)).trans (congrArg some h11)) dX9_textValue_51 ?_
          refine va_iald hx hb hK hP 1 0 rfl rfl (vp_in_nI (by omega) (by decide)) dX9_textValue_54 ?_
          refine W_toi (y := f i) (by rw [nI_clamp (by omega)]) ?_
          refine lv_bipush (v := 32) hx hb dX9_textValue_55 (by decide) ?_
          refine lv_icmp_lt (tgt := 74) hx hb dX9_textValue_57 (by decide) (fun c_56 => ?_) (fun c_56 => ?_)
          · refine lv_aload_n hx hb dX9_textValue_74 rfl (lv_at hl 1 rfl) ?_
            refine lv_iconst (v := 1) hx hb dX9_textValue_75 (by decide) ?_
            refine lv_aload_n hx hb dX9_textValue_76 rfl (lv_at hl 1 rfl) ?_
            refine va_get (D := (dC, dI)) (ci := 11) (v := .int (nI i)) (C := RX9) (T := TX9) (N := 60) hx hb hts iRX9 hown hK hP 0 rfl rfl 11 (by decide) (hts (.fieldLink RX9 141 "RecordBenchModel" "at" "I") (by decide +kernel)) (fun _ h9 => h9) ((mo_get g2 (by decide)).trans (congrArg some h11)) dX9_textValue_77 ?_
            have hFc := va_free (wc := [(h0, .inr (11, mo g2))]) hD hS hA [0] rfl
            refine va_callv (va_runV (As := [.int 1, .int (nI i)]) (rest := []) ⟨hx, hb, hml, hown, hts⟩ (c_X9_fail l dC dI h0 g2 0 h13 1 (nI i) (by decide) H.size) (cwV 2 hts gp_X9_textValue_X9_fail_154 rfl rfl rfl (by decide +kernel) ⟨Nat.le_of_ble_eq_true rfl, Nat.le_of_ble_eq_true rfl⟩) ⟨Pr.blind _, va_recv hK hP (ci := 11) (q0 := 0) rfl rfl, fun U hU hW => ⟨rfl, Pr.at (hP.sub (ws' := [(h0, .inr (11, mo g2))]) [0] rfl) (hK.sub (tys' := []) [] rfl) (hD.sub (ws' := [(h0, .inr (11, mo g2))]) [0] (by decide) rfl) hN hZ RO.nil hS hFc hU hW⟩⟩ rfl rfl hl.1 rfl (lv_room (Nat.le_of_ble_eq_true rfl)) dX9_textValue_80 ⟨Nat.le_of_ble_eq_true rfl, Nat.le_of_ble_eq_true rfl⟩) hS (fun q _ h => hFc q h) hFc (fun u t H1 locs ht hvm hw_58 hB hz1 hk1 hS => ?_)
            obtain ⟨g1_59, b1_60⟩ := u
            obtain ⟨hP, hD, hK⟩ := Bq.join (wr := [(a9, .inl (cT, 400, .inl f)), (a6, .inl (cP, 248, .inr (.inl fP))), (a7, .inl (cX, 2976, .inl fX2))]) hB ht hvm hP hD [0] [1, 2, 3] rfl rfl (by decide) (by decide) hk1 hFc hK
            generalize H1 = H at hP hS ⊢
            have hP : va_P (dC, dI) vwCl [(a9, .inl (cT, 400, .inl f)), (a6, .inl (cP, 248, .inr (.inl fP))), (a7, .inl (cX, 2976, .inl fX2)), (h0, .inr (11, mo g1_59))] H := hP
            have hD : va_D A [(a9, .inl (cT, 400, .inl f)), (a6, .inl (cP, 248, .inr (.inl fP))), (a7, .inl (cX, 2976, .inl fX2)), (h0, .inr (11, mo g1_59))] := hD
            have hK : va_K (dC, dI) vwCl [(cT, .int), (cP, .long), (cX, .int)] s := hK
            try dsimp only at hw_58
            obtain ⟨k_61, k_62, k_63⟩ := hw_58
            have w_64 : g1_59 6 = .ref a6 := (k_63 6 (by decide) (by decide)).trans h6
            have w_65 : g1_59 7 = .ref a7 := (k_63 7 (by decide) (by decide)).trans h7
            have w_66 : g1_59 9 = .ref a9 := (k_63 9 (by decide) (by decide)).trans h9
            have w_67 : g1_59 11 = .int (nI i) := (k_63 11 (by decide) (by decide)).trans h11
            have w_68 : g1_59 12 = .int (nI n) := (k_63 12 (by decide) (by decide)).trans h12
            have un_69 : ∀ j : Nat, j ≠ 11 → j ≠ 13 → j ≠ 14 → j ≠ 17 → g1_59 j = g j := fun j h11 h13 h14 h17 => (k_63 j h13 h14).trans (hun j h11 h13 h14 h17)
            refine lv_aload_n hx hb dX9_textValue_83 rfl (lv_at hl 1 rfl) ?_
            refine va_get (D := (dC, dI)) (ci := 11) (v := .int b1_60) (C := RX9) (T := TX9) (N := 60) hx hb hts iRX9 hown hK hP 3 rfl rfl 13 (by decide) (hts (.fieldLink RX9 135 "RecordBenchModel" "bad" "I") (by decide +kernel)) (fun _ h9 => h9) ((mo_get g1_59 (by decide)).trans (congrArg some k_62)) dX9_textValue_84 ?_
            refine lv_if_eq (tgt := 91) hx hb dX9_textValue_87 (by decide) (fun c_70 => absurd c_70 k_61) (fun c_70 => ?_)
            have hP9 := hP.sub (ws' := [(h0, .inr (11, mo g1_59)), (a9, .inl (cT, 400, .inl f)), (a6, .inl (cP, 248, .inr (.inl fP))), (a7, .inl (cX, 2976, .inl fX2))]) [3, 0, 1, 2] rfl
            have hD9 := hD.sub (ws' := [(h0, .inr (11, mo g1_59)), (a9, .inl (cT, 400, .inl f)), (a6, .inl (cP, 248, .inr (.inl fP))), (a7, .inl (cX, 2976, .inl fX2))]) [3, 0, 1, 2] (by decide) rfl
            have hK9 := hK.sub (tys' := []) [] rfl
            exact W.vret hx hb hr (fun t ht hW => ⟨⟨(g1_59, i, b1_60, fX2, fP), rfl, ⟨Or.inr ⟨fun h => by have h3 := h.2.2.2 i hi1 (by rw [← hqe, tqe_go hlt hnq]; have := tqe_ge f n (i + 1); omega); exact h3.1 c_56, k_61, hx2, fun _ _ => rfl⟩, w_67, k_62, (fun j h11 h13 h14 h17 => un_69 j h11 h13 h14 h17)⟩, by rw [ht]; exact hP9, va_K.moved hW.alike hK9, hD9⟩, hS.F ht⟩) hS.2.2 dX9_textValue_90
          · refine lv_aload_n hx hb dX9_textValue_60 rfl (lv_at hl 1 rfl) ?_
            refine va_get (D := (dC, dI)) (ci := 11) (v := .ref a9) (C := RX9) (T := TX9) (N := 60) hx hb hts iRX9 hown hK hP 0 rfl rfl 9 (by decide) (hts (.fieldLink RX9 39 "RecordBenchModel" "tape" "[I") (by decide +kernel)) (fun _ h9 => h9) ((mo_get g2 (by decide)).trans (congrArg some h9)) dX9_textValue_61 ?_
            refine lv_aload_n hx hb dX9_textValue_64 rfl (lv_at hl 1 rfl) ?_
            refine va_get (D := (dC, dI)) (ci := 11) (v := .int (nI i)) (C := RX9) (T := TX9) (N := 60) hx hb hts iRX9 hown hK hP 0 rfl rfl 11 (by decide) (hts (.fieldLink RX9 141 "RecordBenchModel" "at" "I") (by decide +kernel)) (fun _ h9 => h9) ((mo_get g2 (by decide)).trans (congrArg some h11)) dX9_textValue_65 ?_
            refine va_iald hx hb hK hP 1 0 rfl rfl (vp_in_nI (by omega) (by decide)) dX9_textValue_68 ?_
            refine W_toi (y := f i) (by rw [nI_clamp (by omega)]) ?_
            refine lv_bipush (v := 126) hx hb dX9_textValue_69 (by decide) ?_
            refine lv_icmp_le (tgt := 83) hx hb dX9_textValue_71 (by decide) (fun c_71 => ?_) (fun c_71 => ?_)
            · refine lv_aload_n hx hb dX9_textValue_83 rfl (lv_at hl 1 rfl) ?_
              refine va_get (D := (dC, dI)) (ci := 11) (v := .int 0) (C := RX9) (T := TX9) (N := 60) hx hb hts iRX9 hown hK hP 0 rfl rfl 13 (by decide) (hts (.fieldLink RX9 135 "RecordBenchModel" "bad" "I") (by decide +kernel)) (fun _ h9 => h9) ((mo_get g2 (by decide)).trans (congrArg some h13)) dX9_textValue_84 ?_
              refine lv_if_eq (tgt := 91) hx hb dX9_textValue_87 (by decide) (fun c_72 => ?_) (fun c_72 => absurd (by decide) c_72)
              have hne : i - (tsk f n j + 1) ≠ 12 := fun h => c_41 (by rw [h]; rfl)
              have hti : isT (f i) := ⟨c_56, c_71⟩
              refine lv_aload_n hx hb dX9_textValue_91 rfl (lv_at hl 1 rfl) ?_
              refine va_get (D := (dC, dI)) (ci := 11) (v := .ref a7) (C := RX9) (T := TX9) (N := 60) hx hb hts iRX9 hown hK hP 0 rfl rfl 7 (by decide) (hts (.fieldLink RX9 33 "RecordBenchModel" "plainText" "[I") (by decide +kernel)) (fun _ h9 => h9) ((mo_get g2 (by decide)).trans (congrArg some h7)) dX9_textValue_92 ?_
              refine lv_bipush (v := 12) hx hb dX9_textValue_95 (by decide) ?_
              refine lv_iload_n hx hb dX9_textValue_97 rfl (lv_at hl 2 rfl) ?_
              refine lv_imul hx hb dX9_textValue_98 ?_
              refine lv_iload_n hx hb dX9_textValue_99 rfl (lv_at hl 0 rfl) ?_
              refine lv_iadd hx hb dX9_textValue_100 ?_
              refine lv_aload_n hx hb dX9_textValue_101 rfl (lv_at hl 1 rfl) ?_
              refine va_get (D := (dC, dI)) (ci := 11) (v := .ref a9) (C := RX9) (T := TX9) (N := 60) hx hb hts iRX9 hown hK hP 0 rfl rfl 9 (by decide) (hts (.fieldLink RX9 39 "RecordBenchModel" "tape" "[I") (by decide +kernel)) (fun _ h9 => h9) ((mo_get g2 (by decide)).trans (congrArg some h9)) dX9_textValue_102 ?_
              refine lv_aload_n hx hb dX9_textValue_105 rfl (lv_at hl 1 rfl) ?_
              refine va_get (D := (dC, dI)) (ci := 11) (v := .int (nI i)) (C := RX9) (T := TX9) (N := 60) hx hb hts iRX9 hown hK hP 0 rfl rfl 11 (by decide) (hts (.fieldLink RX9 141 "RecordBenchModel" "at" "I") (by decide +kernel)) (fun _ h9 => h9) ((mo_get g2 (by decide)).trans (congrArg some h11)) dX9_textValue_106 ?_
              refine va_iald hx hb hK hP 1 0 rfl rfl (vp_in_nI (by omega) (by decide)) dX9_textValue_109 ?_
              refine W_toi (y := f i) (by rw [nI_clamp (by omega)]) ?_
              refine va_iast hx hb hK hP hD hS 3 2 rfl rfl (in_pt hF (by omega)) dX9_textValue_110 (fun H locs hP hD hS => ?_)
              obtain ⟨f_73, ef_73⟩ : ∃ y : Nat → Int32, y = upd fX2 ((12 * (nI F)) + (nI (i - (tsk f n j + 1))) : Int32).toNatClampNeg (f i) := ⟨_, rfl⟩
              have hP : va_P (dC, dI) vwCl [(h0, .inr (11, mo g2)), (a9, .inl (cT, 400, .inl f)), (a6, .inl (cP, 248, .inr (.inl fP))), (a7, .inl (cX, 2976, .inl f_73))] H := by rw [ef_73]; exact hP
              have hD : va_D A [(h0, .inr (11, mo g2)), (a9, .inl (cT, 400, .inl f)), (a6, .inl (cP, 248, .inr (.inl fP))), (a7, .inl (cX, 2976, .inl f_73))] := by rw [ef_73]; exact hD
              refine lv_iinc (v := nI (i + 1 - (tsk f n j + 1))) (lv' := [(2, .int (nI (i + 1 - (tsk f n j + 1)))), (0, .ref h0), (1, .int (nI F))]) hx hb dX9_textValue_111 hl (k := 0) rfl ((nI_1 _).trans (by rw [show i - (tsk f n j + 1) + 1 = i + 1 - (tsk f n j + 1) by omega])) (by decide) rfl (fun ls hl => ?_)
              refine lv_aload_n hx hb dX9_textValue_114 rfl (lv_at hl 1 rfl) ?_
              refine lv_dup hx hb dX9_textValue_115 rfl ?_
              refine va_get (D := (dC, dI)) (ci := 11) (v := .int (nI i)) (C := RX9) (T := TX9) (N := 60) hx hb hts iRX9 hown hK hP 0 rfl rfl 11 (by decide) (hts (.fieldLink RX9 141 "RecordBenchModel" "at" "I") (by decide +kernel)) (fun _ h9 => h9) ((mo_get g2 (by decide)).trans (congrArg some h11)) dX9_textValue_116 ?_
              refine lv_iconst (v := 1) hx hb dX9_textValue_119 (by decide) ?_
              refine lv_iadd hx hb dX9_textValue_120 ?_
              refine W_toi (y := nI (i + 1)) (nI_1 i) ?_
              refine va_put (D := (dC, dI)) (ci := 11) (v := .int (nI (i + 1))) (ty := .int) (C := RX9) (T := TX9) (N := 60) hx hb hts iRX9 tyX9 tyX9_ok nmX9 hown hK hP hD hS 0 rfl rfl 11 (by decide) (hts (.fieldLink RX9 141 "RecordBenchModel" "at" "I") (by decide +kernel)) (fun _ h9 => h9) rfl (by decide +kernel) rfl rfl (by rw [mo_len]; decide) dX9_textValue_121 (fun H locs hP hD hS => ?_)
              obtain ⟨g_74, eg_74⟩ : ∃ y, y = va_up g2 11 (.int (nI (i + 1))) := ⟨_, rfl⟩
              have hP : va_P (dC, dI) vwCl [(h0, .inr (11, mo g_74)), (a9, .inl (cT, 400, .inl f)), (a6, .inl (cP, 248, .inr (.inl fP))), (a7, .inl (cX, 2976, .inl f_73))] H := by rw [eg_74, ← mo_set g2 (by decide)]; exact hP
              have hD : va_D A [(h0, .inr (11, mo g_74)), (a9, .inl (cT, 400, .inl f)), (a6, .inl (cP, 248, .inr (.inl fP))), (a7, .inl (cX, 2976, .inl f_73))] := by rw [eg_74, ← mo_set g2 (by decide)]; exact hD
              have g_74h6 : g_74 6 = .ref a6 := by rw [eg_74, va_up_ne _ _ (by decide)]; exact h6
              have g_74h7 : g_74 7 = .ref a7 := by rw [eg_74, va_up_ne _ _ (by decide)]; exact h7
              have g_74h9 : g_74 9 = .ref a9 := by rw [eg_74, va_up_ne _ _ (by decide)]; exact h9
              have g_74h12 : g_74 12 = .int (nI n) := by rw [eg_74, va_up_ne _ _ (by decide)]; exact h12
              have g_74h13 : g_74 13 = .int 0 := by rw [eg_74, va_up_ne _ _ (by decide)]; exact h13
              have g_74h11 : g_74 11 = .int (nI (i + 1)) := by rw [eg_74, va_up_self]
              have ung_74 : ∀ j : Nat, j ≠ 11 → j ≠ 13 → j ≠ 14 → j ≠ 17 → g_74 j = g j := fun j h11 h13 h14 h17 => by rw [eg_74, va_up_ne _ _ h11]; exact hun j h11 h13 h14 h17
              refine lv_goto (tgt := 8) hx hb dX9_textValue_124 (by decide) ?_
              exact ih ((i + 1), g_74, f_73) (by show n - (i + 1) < n - i; omega) ⟨(by omega), (by omega), (by omega), ((tqe_go hlt hnq).symm.trans hqe), (fun x h1 h2 => (Nat.lt_or_ge x i).elim (fun h3 => hok x h1 h3) (fun h3 => by rw [show x = i by omega]; exact hti)), (fun k h => by rw [ef_73, cl_pt hF (by omega)]; exact upd_pt hi1 h hx1), (fun x hx => by rw [ef_73, cl_pt hF (by omega), pk_un (by omega)]; exact hx2 x hx), g_74h6, g_74h7, g_74h9, g_74h11, g_74h12, g_74h13, (fun k h1 h2 h3 h4 => ung_74 k h1 h2 h3 h4)⟩ _ _ _ (hP.sub (ws' := [(h0, .inr (11, mo g_74)), (a9, .inl (cT, 400, .inl f)), (a6, .inl (cP, 248, .inr (.inl fP))), (a7, .inl (cX, 2976, .inl f_73))]) [0, 1, 2, 3] rfl) (hD.sub (ws' := [(h0, .inr (11, mo g_74)), (a9, .inl (cT, 400, .inl f)), (a6, .inl (cP, 248, .inr (.inl fP))), (a7, .inl (cX, 2976, .inl f_73))]) [0, 1, 2, 3] (by decide) rfl) hS (lv_sub hl [0, 1, 2] rfl)
            · refine lv_aload_n hx hb dX9_textValue_74 rfl (lv_at hl 1 rfl) ?_
              refine lv_iconst (v := 1) hx hb dX9_textValue_75 (by decide) ?_
              refine lv_aload_n hx hb dX9_textValue_76 rfl (lv_at hl 1 rfl) ?_
              refine va_get (D := (dC, dI)) (ci := 11) (v := .int (nI i)) (C := RX9) (T := TX9) (N := 60) hx hb hts iRX9 hown hK hP 0 rfl rfl 11 (by decide) (hts (.fieldLink RX9 141 "RecordBenchModel" "at" "I") (by decide +kernel)) (fun _ h9 => h9) ((mo_get g2 (by decide)).trans (congrArg some h11)) dX9_textValue_77 ?_
              have hFc := va_free (wc := [(h0, .inr (11, mo g2))]) hD hS hA [0] rfl
              refine va_callv (va_runV (As := [.int 1, .int (nI i)]) (rest := []) ⟨hx, hb, hml, hown, hts⟩ (c_X9_fail l dC dI h0 g2 0 h13 1 (nI i) (by decide) H.size) (cwV 2 hts gp_X9_textValue_X9_fail_154 rfl rfl rfl (by decide +kernel) ⟨Nat.le_of_ble_eq_true rfl, Nat.le_of_ble_eq_true rfl⟩) ⟨Pr.blind _, va_recv hK hP (ci := 11) (q0 := 0) rfl rfl, fun U hU hW => ⟨rfl, Pr.at (hP.sub (ws' := [(h0, .inr (11, mo g2))]) [0] rfl) (hK.sub (tys' := []) [] rfl) (hD.sub (ws' := [(h0, .inr (11, mo g2))]) [0] (by decide) rfl) hN hZ RO.nil hS hFc hU hW⟩⟩ rfl rfl hl.1 rfl (lv_room (Nat.le_of_ble_eq_true rfl)) dX9_textValue_80 ⟨Nat.le_of_ble_eq_true rfl, Nat.le_of_ble_eq_true rfl⟩) hS (fun q _ h => hFc q h) hFc (fun u t H1 locs ht hvm hw_76 hB hz1 hk1 hS => ?_)
              obtain ⟨g1_77, b1_78⟩ := u
              obtain ⟨hP, hD, hK⟩ := Bq.join (wr := [(a9, .inl (cT, 400, .inl f)), (a6, .inl (cP, 248, .inr (.inl fP))), (a7, .inl (cX, 2976, .inl fX2))]) hB ht hvm hP hD [0] [1, 2, 3] rfl rfl (by decide) (by decide) hk1 hFc hK
              generalize H1 = H at hP hS ⊢
              have hP : va_P (dC, dI) vwCl [(a9, .inl (cT, 400, .inl f)), (a6, .inl (cP, 248, .inr (.inl fP))), (a7, .inl (cX, 2976, .inl fX2)), (h0, .inr (11, mo g1_77))] H := hP
              have hD : va_D A [(a9, .inl (cT, 400, .inl f)), (a6, .inl (cP, 248, .inr (.inl fP))), (a7, .inl (cX, 2976, .inl fX2)), (h0, .inr (11, mo g1_77))] := hD
              have hK : va_K (dC, dI) vwCl [(cT, .int), (cP, .long), (cX, .int)] s := hK
              try dsimp only at hw_76
              obtain ⟨k_79, k_80, k_81⟩ := hw_76
              have w_82 : g1_77 6 = .ref a6 := (k_81 6 (by decide) (by decide)).trans h6
              have w_83 : g1_77 7 = .ref a7 := (k_81 7 (by decide) (by decide)).trans h7
              have w_84 : g1_77 9 = .ref a9 := (k_81 9 (by decide) (by decide)).trans h9
              have w_85 : g1_77 11 = .int (nI i) := (k_81 11 (by decide) (by decide)).trans h11
              have w_86 : g1_77 12 = .int (nI n) := (k_81 12 (by decide) (by decide)).trans h12
              have un_87 : ∀ j : Nat, j ≠ 11 → j ≠ 13 → j ≠ 14 → j ≠ 17 → g1_77 j = g j := fun j h11 h13 h14 h17 => (k_81 j h13 h14).trans (hun j h11 h13 h14 h17)
              refine lv_aload_n hx hb dX9_textValue_83 rfl (lv_at hl 1 rfl) ?_
              refine va_get (D := (dC, dI)) (ci := 11) (v := .int b1_78) (C := RX9) (T := TX9) (N := 60) hx hb hts iRX9 hown hK hP 3 rfl rfl 13 (by decide) (hts (.fieldLink RX9 135 "RecordBenchModel" "bad" "I") (by decide +kernel)) (fun _ h9 => h9) ((mo_get g1_77 (by decide)).trans (congrArg some k_80)) dX9_textValue_84 ?_
              refine lv_if_eq (tgt := 91) hx hb dX9_textValue_87 (by decide) (fun c_88 => absurd c_88 k_79) (fun c_88 => ?_)
              have hP9 := hP.sub (ws' := [(h0, .inr (11, mo g1_77)), (a9, .inl (cT, 400, .inl f)), (a6, .inl (cP, 248, .inr (.inl fP))), (a7, .inl (cX, 2976, .inl fX2))]) [3, 0, 1, 2] rfl
              have hD9 := hD.sub (ws' := [(h0, .inr (11, mo g1_77)), (a9, .inl (cT, 400, .inl f)), (a6, .inl (cP, 248, .inr (.inl fP))), (a7, .inl (cX, 2976, .inl fX2))]) [3, 0, 1, 2] (by decide) rfl
              have hK9 := hK.sub (tys' := []) [] rfl
              exact W.vret hx hb hr (fun t ht hW => ⟨⟨(g1_77, i, b1_78, fX2, fP), rfl, ⟨Or.inr ⟨fun h => by have h3 := h.2.2.2 i hi1 (by rw [← hqe, tqe_go hlt hnq]; have := tqe_ge f n (i + 1); omega); exact c_71 h3.2, k_79, hx2, fun _ _ => rfl⟩, w_85, k_80, (fun j h11 h13 h14 h17 => un_87 j h11 h13 h14 h17)⟩, by rw [ht]; exact hP9, va_K.moved hW.alike hK9, hD9⟩, hS.F ht⟩) hS.2.2 dX9_textValue_90
  · refine lv_iconst (v := 0) hx hb dX9_textValue_6 (by decide) ?_
    refine lv_istore_n (lv' := [(2, .int 0), (0, .ref h0), (1, .int (nI F))]) hx hb dX9_textValue_7 rfl hl (by decide) rfl (fun ls hl => ?_)
    refine lv_aload_n hx hb dX9_textValue_8 rfl (lv_at hl 1 rfl) ?_
    refine va_get (D := (dC, dI)) (ci := 11) (v := .int b1_5) (C := RX9) (T := TX9) (N := 60) hx hb hts iRX9 hown hK hP 2 rfl rfl 13 (by decide) (hts (.fieldLink RX9 135 "RecordBenchModel" "bad" "I") (by decide +kernel)) (fun _ h9 => h9) ((mo_get g1_3 (by decide)).trans (congrArg some k_8)) dX9_textValue_9 ?_
    refine lv_if_ne (tgt := 127) hx hb dX9_textValue_12 (by decide) (fun c_89 => ?_) (fun c_89 => absurd c_89 hcy_16)
    refine lv_aload_n hx hb dX9_textValue_127 rfl (lv_at hl 1 rfl) ?_
    refine va_get (D := (dC, dI)) (ci := 11) (v := .int (nI (tsk f n j))) (C := RX9) (T := TX9) (N := 60) hx hb hts iRX9 hown hK hP 2 rfl rfl 11 (by decide) (hts (.fieldLink RX9 141 "RecordBenchModel" "at" "I") (by decide +kernel)) (fun _ h9 => h9) ((mo_get g1_3 (by decide)).trans (congrArg some k_7)) dX9_textValue_128 ?_
    refine lv_aload_n hx hb dX9_textValue_131 rfl (lv_at hl 1 rfl) ?_
    refine va_get (D := (dC, dI)) (ci := 11) (v := .int (nI n)) (C := RX9) (T := TX9) (N := 60) hx hb hts iRX9 hown hK hP 2 rfl rfl 12 (by decide) (hts (.fieldLink RX9 144 "RecordBenchModel" "size" "I") (by decide +kernel)) (fun _ h9 => h9) ((mo_get g1_3 (by decide)).trans (congrArg some w_14)) dX9_textValue_132 ?_
    refine lv_icmp_ne (tgt := 147) hx hb dX9_textValue_135 (by decide) (fun c_90 => ?_) (fun c_90 => ?_)
    · refine lv_aload_n hx hb dX9_textValue_147 rfl (lv_at hl 1 rfl) ?_
      refine lv_dup hx hb dX9_textValue_148 rfl ?_
      refine va_get (D := (dC, dI)) (ci := 11) (v := .int (nI (tsk f n j))) (C := RX9) (T := TX9) (N := 60) hx hb hts iRX9 hown hK hP 2 rfl rfl 11 (by decide) (hts (.fieldLink RX9 141 "RecordBenchModel" "at" "I") (by decide +kernel)) (fun _ h9 => h9) ((mo_get g1_3 (by decide)).trans (congrArg some k_7)) dX9_textValue_149 ?_
      refine lv_iconst (v := 1) hx hb dX9_textValue_152 (by decide) ?_
      refine lv_iadd hx hb dX9_textValue_153 ?_
      refine W_toi (y := nI ((tsk f n j) + 1)) (nI_1 _) ?_
      refine va_put (D := (dC, dI)) (ci := 11) (v := .int (nI ((tsk f n j) + 1))) (ty := .int) (C := RX9) (T := TX9) (N := 60) hx hb hts iRX9 tyX9 tyX9_ok nmX9 hown hK hP hD hS 2 rfl rfl 11 (by decide) (hts (.fieldLink RX9 141 "RecordBenchModel" "at" "I") (by decide +kernel)) (fun _ h9 => h9) rfl (by decide +kernel) rfl rfl (by rw [mo_len]; decide) dX9_textValue_154 (fun H locs hP hD hS => ?_)
      obtain ⟨g_91, eg_91⟩ : ∃ y, y = va_up g1_3 11 (.int (nI ((tsk f n j) + 1))) := ⟨_, rfl⟩
      have hP : va_P (dC, dI) vwCl [(a6, .inl (cP, 248, .inr (.inl fP))), (a7, .inl (cX, 2976, .inl fX)), (h0, .inr (11, mo g_91)), (a9, .inl (cT, 400, .inl f))] H := by rw [eg_91, ← mo_set g1_3 (by decide)]; exact hP
      have hD : va_D A [(a6, .inl (cP, 248, .inr (.inl fP))), (a7, .inl (cX, 2976, .inl fX)), (h0, .inr (11, mo g_91)), (a9, .inl (cT, 400, .inl f))] := by rw [eg_91, ← mo_set g1_3 (by decide)]; exact hD
      have g_91h13 : g_91 13 = .int b1_5 := by rw [eg_91, va_up_ne _ _ (by decide)]; exact k_8
      have g_91h17 : g_91 17 = .int (nI (tsk f n j)) := by rw [eg_91, va_up_ne _ _ (by decide)]; exact k_9
      have g_91h6 : g_91 6 = .ref a6 := by rw [eg_91, va_up_ne _ _ (by decide)]; exact w_11
      have g_91h7 : g_91 7 = .ref a7 := by rw [eg_91, va_up_ne _ _ (by decide)]; exact w_12
      have g_91h9 : g_91 9 = .ref a9 := by rw [eg_91, va_up_ne _ _ (by decide)]; exact w_13
      have g_91h12 : g_91 12 = .int (nI n) := by rw [eg_91, va_up_ne _ _ (by decide)]; exact w_14
      have g_91h11 : g_91 11 = .int (nI ((tsk f n j) + 1)) := by rw [eg_91, va_up_self]
      have ung_91 : ∀ j : Nat, j ≠ 11 → j ≠ 13 → j ≠ 14 → j ≠ 17 → g_91 j = g j := fun j h11 h13 h14 h17 => by rw [eg_91, va_up_ne _ _ h11]; exact un_15 j h11 h13 h14 h17
      refine lv_aload_n hx hb dX9_textValue_157 rfl (lv_at hl 1 rfl) ?_
      refine va_get (D := (dC, dI)) (ci := 11) (v := .ref a6) (C := RX9) (T := TX9) (N := 60) hx hb hts iRX9 hown hK hP 2 rfl rfl 6 (by decide) (hts (.fieldLink RX9 30 "RecordBenchModel" "plain" "[J") (by decide +kernel)) (fun _ h9 => h9) ((mo_get g_91 (by decide)).trans (congrArg some g_91h6)) dX9_textValue_158 ?_
      refine lv_iload_n hx hb dX9_textValue_161 rfl (lv_at hl 2 rfl) ?_
      refine lv_iload_n hx hb dX9_textValue_162 rfl (lv_at hl 0 rfl) ?_
      refine lv_i2l (v := (0 : Int32).toInt64) hx hb dX9_textValue_163 rfl ?_
      refine va_last hx hb hK hP hD hS 0 1 rfl rfl (vp_in_nI hF (by decide)) dX9_textValue_164 (fun H locs hP hD hS => ?_)
      obtain ⟨f_93, ef_93⟩ : ∃ y : Nat → Int64, y = vp_updL fP (nI F : Int32).toNatClampNeg ((0 : Int32).toInt64) := ⟨_, rfl⟩
      have hP : va_P (dC, dI) vwCl [(a6, .inl (cP, 248, .inr (.inl f_93))), (a7, .inl (cX, 2976, .inl fX)), (h0, .inr (11, mo g_91)), (a9, .inl (cT, 400, .inl f))] H := by rw [ef_93]; exact hP
      have hD : va_D A [(a6, .inl (cP, 248, .inr (.inl f_93))), (a7, .inl (cX, 2976, .inl fX)), (h0, .inr (11, mo g_91)), (a9, .inl (cT, 400, .inl f))] := by rw [ef_93]; exact hD
      have hP9 := hP.sub (ws' := [(h0, .inr (11, mo g_91)), (a9, .inl (cT, 400, .inl f)), (a6, .inl (cP, 248, .inr (.inl f_93))), (a7, .inl (cX, 2976, .inl fX))]) [2, 3, 0, 1] rfl
      have hD9 := hD.sub (ws' := [(h0, .inr (11, mo g_91)), (a9, .inl (cT, 400, .inl f)), (a6, .inl (cP, 248, .inr (.inl f_93))), (a7, .inl (cX, 2976, .inl fX))]) [2, 3, 0, 1] (by decide) rfl
      have hK9 := hK.sub (tys' := []) [] rfl
      exact W.vret hx hb hr (fun t ht hW => ⟨⟨(g_91, ((tsk f n j) + 1), b1_5, fX, f_93), rfl, ⟨Or.inr ⟨fun h => hay_16 h.1, hcy_16, fun _ _ => rfl, fun x hx => by rw [ef_93]; exact pk_uLn hx⟩, g_91h11, g_91h13, (fun j h11 h13 h14 h17 => ung_91 j h11 h13 h14 h17)⟩, by rw [ht]; exact hP9, va_K.moved hW.alike hK9, hD9⟩, hS.F ht⟩) hS.2.2 dX9_textValue_165
    · refine lv_aload_n hx hb dX9_textValue_138 rfl (lv_at hl 1 rfl) ?_
      refine lv_iconst (v := 1) hx hb dX9_textValue_139 (by decide) ?_
      refine lv_aload_n hx hb dX9_textValue_140 rfl (lv_at hl 1 rfl) ?_
      refine va_get (D := (dC, dI)) (ci := 11) (v := .int (nI (tsk f n j))) (C := RX9) (T := TX9) (N := 60) hx hb hts iRX9 hown hK hP 2 rfl rfl 11 (by decide) (hts (.fieldLink RX9 141 "RecordBenchModel" "at" "I") (by decide +kernel)) (fun _ h9 => h9) ((mo_get g1_3 (by decide)).trans (congrArg some k_7)) dX9_textValue_141 ?_
      have hFc := va_free (wc := [(h0, .inr (11, mo g1_3))]) hD hS hA [2] rfl
      refine va_callv (va_runV (As := [.int 1, .int (nI (tsk f n j))]) (rest := []) ⟨hx, hb, hml, hown, hts⟩ (c_X9_fail l dC dI h0 g1_3 b1_5 k_8 1 (nI (tsk f n j)) (by decide) H.size) (cwV 2 hts gp_X9_textValue_X9_fail_154 rfl rfl rfl (by decide +kernel) ⟨Nat.le_of_ble_eq_true rfl, Nat.le_of_ble_eq_true rfl⟩) ⟨Pr.blind _, va_recv hK hP (ci := 11) (q0 := 2) rfl rfl, fun U hU hW => ⟨rfl, Pr.at (hP.sub (ws' := [(h0, .inr (11, mo g1_3))]) [2] rfl) (hK.sub (tys' := []) [] rfl) (hD.sub (ws' := [(h0, .inr (11, mo g1_3))]) [2] (by decide) rfl) hN hZ RO.nil hS hFc hU hW⟩⟩ rfl rfl hl.1 rfl (lv_room (Nat.le_of_ble_eq_true rfl)) dX9_textValue_144 ⟨Nat.le_of_ble_eq_true rfl, Nat.le_of_ble_eq_true rfl⟩) hS (fun q _ h => hFc q h) hFc (fun u t H1 locs ht hvm hw_95 hB hz1 hk1 hS => ?_)
      obtain ⟨g1_96, b1_97⟩ := u
      obtain ⟨hP, hD, hK⟩ := Bq.join (wr := [(a6, .inl (cP, 248, .inr (.inl fP))), (a7, .inl (cX, 2976, .inl fX)), (a9, .inl (cT, 400, .inl f))]) hB ht hvm hP hD [2] [0, 1, 3] rfl rfl (by decide) (by decide) hk1 hFc hK
      generalize H1 = H at hP hS ⊢
      have hP : va_P (dC, dI) vwCl [(a6, .inl (cP, 248, .inr (.inl fP))), (a7, .inl (cX, 2976, .inl fX)), (a9, .inl (cT, 400, .inl f)), (h0, .inr (11, mo g1_96))] H := hP
      have hD : va_D A [(a6, .inl (cP, 248, .inr (.inl fP))), (a7, .inl (cX, 2976, .inl fX)), (a9, .inl (cT, 400, .inl f)), (h0, .inr (11, mo g1_96))] := hD
      have hK : va_K (dC, dI) vwCl [(cT, .int), (cP, .long), (cX, .int)] s := hK
      try dsimp only at hw_95
      obtain ⟨k_98, k_99, k_100⟩ := hw_95
      have w_101 : g1_96 11 = .int (nI (tsk f n j)) := (k_100 11 (by decide) (by decide)).trans k_7
      have w_102 : g1_96 17 = .int (nI (tsk f n j)) := (k_100 17 (by decide) (by decide)).trans k_9
      have w_103 : g1_96 6 = .ref a6 := (k_100 6 (by decide) (by decide)).trans w_11
      have w_104 : g1_96 7 = .ref a7 := (k_100 7 (by decide) (by decide)).trans w_12
      have w_105 : g1_96 9 = .ref a9 := (k_100 9 (by decide) (by decide)).trans w_13
      have w_106 : g1_96 12 = .int (nI n) := (k_100 12 (by decide) (by decide)).trans w_14
      have un_107 : ∀ j : Nat, j ≠ 11 → j ≠ 13 → j ≠ 14 → j ≠ 17 → g1_96 j = g j := fun j h11 h13 h14 h17 => (k_100 j h13 h14).trans (un_15 j h11 h13 h14 h17)
      refine lv_aload_n hx hb dX9_textValue_147 rfl (lv_at hl 1 rfl) ?_
      refine lv_dup hx hb dX9_textValue_148 rfl ?_
      refine va_get (D := (dC, dI)) (ci := 11) (v := .int (nI (tsk f n j))) (C := RX9) (T := TX9) (N := 60) hx hb hts iRX9 hown hK hP 3 rfl rfl 11 (by decide) (hts (.fieldLink RX9 141 "RecordBenchModel" "at" "I") (by decide +kernel)) (fun _ h9 => h9) ((mo_get g1_96 (by decide)).trans (congrArg some w_101)) dX9_textValue_149 ?_
      refine lv_iconst (v := 1) hx hb dX9_textValue_152 (by decide) ?_
      refine lv_iadd hx hb dX9_textValue_153 ?_
      refine W_toi (y := nI ((tsk f n j) + 1)) (nI_1 _) ?_
      refine va_put (D := (dC, dI)) (ci := 11) (v := .int (nI ((tsk f n j) + 1))) (ty := .int) (C := RX9) (T := TX9) (N := 60) hx hb hts iRX9 tyX9 tyX9_ok nmX9 hown hK hP hD hS 3 rfl rfl 11 (by decide) (hts (.fieldLink RX9 141 "RecordBenchModel" "at" "I") (by decide +kernel)) (fun _ h9 => h9) rfl (by decide +kernel) rfl rfl (by rw [mo_len]; decide) dX9_textValue_154 (fun H locs hP hD hS => ?_)
      obtain ⟨g_108, eg_108⟩ : ∃ y, y = va_up g1_96 11 (.int (nI ((tsk f n j) + 1))) := ⟨_, rfl⟩
      have hP : va_P (dC, dI) vwCl [(a6, .inl (cP, 248, .inr (.inl fP))), (a7, .inl (cX, 2976, .inl fX)), (a9, .inl (cT, 400, .inl f)), (h0, .inr (11, mo g_108))] H := by rw [eg_108, ← mo_set g1_96 (by decide)]; exact hP
      have hD : va_D A [(a6, .inl (cP, 248, .inr (.inl fP))), (a7, .inl (cX, 2976, .inl fX)), (a9, .inl (cT, 400, .inl f)), (h0, .inr (11, mo g_108))] := by rw [eg_108, ← mo_set g1_96 (by decide)]; exact hD
      have g_108h13 : g_108 13 = .int b1_97 := by rw [eg_108, va_up_ne _ _ (by decide)]; exact k_99
      have g_108h17 : g_108 17 = .int (nI (tsk f n j)) := by rw [eg_108, va_up_ne _ _ (by decide)]; exact w_102
      have g_108h6 : g_108 6 = .ref a6 := by rw [eg_108, va_up_ne _ _ (by decide)]; exact w_103
      have g_108h7 : g_108 7 = .ref a7 := by rw [eg_108, va_up_ne _ _ (by decide)]; exact w_104
      have g_108h9 : g_108 9 = .ref a9 := by rw [eg_108, va_up_ne _ _ (by decide)]; exact w_105
      have g_108h12 : g_108 12 = .int (nI n) := by rw [eg_108, va_up_ne _ _ (by decide)]; exact w_106
      have g_108h11 : g_108 11 = .int (nI ((tsk f n j) + 1)) := by rw [eg_108, va_up_self]
      have ung_108 : ∀ j : Nat, j ≠ 11 → j ≠ 13 → j ≠ 14 → j ≠ 17 → g_108 j = g j := fun j h11 h13 h14 h17 => by rw [eg_108, va_up_ne _ _ h11]; exact un_107 j h11 h13 h14 h17
      refine lv_aload_n hx hb dX9_textValue_157 rfl (lv_at hl 1 rfl) ?_
      refine va_get (D := (dC, dI)) (ci := 11) (v := .ref a6) (C := RX9) (T := TX9) (N := 60) hx hb hts iRX9 hown hK hP 3 rfl rfl 6 (by decide) (hts (.fieldLink RX9 30 "RecordBenchModel" "plain" "[J") (by decide +kernel)) (fun _ h9 => h9) ((mo_get g_108 (by decide)).trans (congrArg some g_108h6)) dX9_textValue_158 ?_
      refine lv_iload_n hx hb dX9_textValue_161 rfl (lv_at hl 2 rfl) ?_
      refine lv_iload_n hx hb dX9_textValue_162 rfl (lv_at hl 0 rfl) ?_
      refine lv_i2l (v := (0 : Int32).toInt64) hx hb dX9_textValue_163 rfl ?_
      refine va_last hx hb hK hP hD hS 0 1 rfl rfl (vp_in_nI hF (by decide)) dX9_textValue_164 (fun H locs hP hD hS => ?_)
      obtain ⟨f_110, ef_110⟩ : ∃ y : Nat → Int64, y = vp_updL fP (nI F : Int32).toNatClampNeg ((0 : Int32).toInt64) := ⟨_, rfl⟩
      have hP : va_P (dC, dI) vwCl [(a6, .inl (cP, 248, .inr (.inl f_110))), (a7, .inl (cX, 2976, .inl fX)), (a9, .inl (cT, 400, .inl f)), (h0, .inr (11, mo g_108))] H := by rw [ef_110]; exact hP
      have hD : va_D A [(a6, .inl (cP, 248, .inr (.inl f_110))), (a7, .inl (cX, 2976, .inl fX)), (a9, .inl (cT, 400, .inl f)), (h0, .inr (11, mo g_108))] := by rw [ef_110]; exact hD
      have hP9 := hP.sub (ws' := [(h0, .inr (11, mo g_108)), (a9, .inl (cT, 400, .inl f)), (a6, .inl (cP, 248, .inr (.inl f_110))), (a7, .inl (cX, 2976, .inl fX))]) [3, 2, 0, 1] rfl
      have hD9 := hD.sub (ws' := [(h0, .inr (11, mo g_108)), (a9, .inl (cT, 400, .inl f)), (a6, .inl (cP, 248, .inr (.inl f_110))), (a7, .inl (cX, 2976, .inl fX))]) [3, 2, 0, 1] (by decide) rfl
      have hK9 := hK.sub (tys' := []) [] rfl
      exact W.vret hx hb hr (fun t ht hW => ⟨⟨(g_108, ((tsk f n j) + 1), b1_97, fX, f_110), rfl, ⟨Or.inr ⟨fun h => hay_16 h.1, k_98, fun _ _ => rfl, fun x hx => by rw [ef_110]; exact pk_uLn hx⟩, g_108h11, g_108h13, (fun j h11 h13 h14 h17 => ung_108 j h11 h13 h14 h17)⟩, by rw [ht]; exact hP9, va_K.moved hW.alike hK9, hD9⟩, hS.F ht⟩) hS.2.2 dX9_textValue_165
