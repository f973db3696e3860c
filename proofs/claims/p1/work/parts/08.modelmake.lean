theorem dX9_make_0 : decode cX9_make 0 = .ok (.iload_n 1, 1) := by decide +kernel
theorem dX9_make_1 : decode cX9_make 1 = .ok (.ifCond .lt 18, 3) := by decide +kernel
theorem dX9_make_10 : decode cX9_make 10 = .ok (.aload_n 0, 1) := by decide +kernel
theorem dX9_make_109 : decode cX9_make 109 = .ok (.aload_n 0, 1) := by decide +kernel
theorem dX9_make_11 : decode cX9_make 11 = .ok (.getfield 7, 3) := by decide +kernel
theorem dX9_make_110 : decode cX9_make 110 = .ok (.aload_n 0, 1) := by decide +kernel
theorem dX9_make_111 : decode cX9_make 111 = .ok (.getfield 135, 3) := by decide +kernel
theorem dX9_make_114 : decode cX9_make 114 = .ok (.putfield 236, 3) := by decide +kernel
theorem dX9_make_117 : decode cX9_make 117 = .ok (.aload_n 0, 1) := by decide +kernel
theorem dX9_make_118 : decode cX9_make 118 = .ok (.aload_n 0, 1) := by decide +kernel
theorem dX9_make_119 : decode cX9_make 119 = .ok (.getfield 138, 3) := by decide +kernel
theorem dX9_make_122 : decode cX9_make 122 = .ok (.putfield 42, 3) := by decide +kernel
theorem dX9_make_125 : decode cX9_make 125 = .ok (.aload_n 0, 1) := by decide +kernel
theorem dX9_make_126 : decode cX9_make 126 = .ok (.getfield 135, 3) := by decide +kernel
theorem dX9_make_129 : decode cX9_make 129 = .ok (.ifCond .eq 5, 3) := by decide +kernel
theorem dX9_make_134 : decode cX9_make 134 = .ok (.aload_n 0, 1) := by decide +kernel
theorem dX9_make_135 : decode cX9_make 135 = .ok (.getfield 7, 3) := by decide +kernel
theorem dX9_make_138 : decode cX9_make 138 = .ok (.iload_n 1, 1) := by decide +kernel
theorem dX9_make_139 : decode cX9_make 139 = .ok (.iconst 1, 1) := by decide +kernel
theorem dX9_make_14 : decode cX9_make 14 = .ok (.iload_n 1, 1) := by decide +kernel
theorem dX9_make_140 : decode cX9_make 140 = .ok (.bastore, 1) := by decide +kernel
theorem dX9_make_141 : decode cX9_make 141 = .ok (.aload_n 0, 1) := by decide +kernel
theorem dX9_make_142 : decode cX9_make 142 = .ok (.getfield 177, 3) := by decide +kernel
theorem dX9_make_145 : decode cX9_make 145 = .ok (.ireturn, 1) := by decide +kernel
theorem dX9_make_15 : decode cX9_make 15 = .ok (.baload, 1) := by decide +kernel
theorem dX9_make_16 : decode cX9_make 16 = .ok (.ifCond .eq 6, 3) := by decide +kernel
theorem dX9_make_19 : decode cX9_make 19 = .ok (.bipush (-2), 2) := by decide +kernel
theorem dX9_make_21 : decode cX9_make 21 = .ok (.ireturn, 1) := by decide +kernel
theorem dX9_make_22 : decode cX9_make 22 = .ok (.aload_n 0, 1) := by decide +kernel
theorem dX9_make_23 : decode cX9_make 23 = .ok (.iconst 0, 1) := by decide +kernel
theorem dX9_make_24 : decode cX9_make 24 = .ok (.putfield 141, 3) := by decide +kernel
theorem dX9_make_27 : decode cX9_make 27 = .ok (.aload_n 0, 1) := by decide +kernel
theorem dX9_make_28 : decode cX9_make 28 = .ok (.aload_n 0, 1) := by decide +kernel
theorem dX9_make_29 : decode cX9_make 29 = .ok (.getfield 132, 3) := by decide +kernel
theorem dX9_make_32 : decode cX9_make 32 = .ok (.putfield 144, 3) := by decide +kernel
theorem dX9_make_35 : decode cX9_make 35 = .ok (.aload_n 0, 1) := by decide +kernel
theorem dX9_make_36 : decode cX9_make 36 = .ok (.iconst 0, 1) := by decide +kernel
theorem dX9_make_37 : decode cX9_make 37 = .ok (.putfield 132, 3) := by decide +kernel
theorem dX9_make_4 : decode cX9_make 4 = .ok (.iload_n 1, 1) := by decide +kernel
theorem dX9_make_40 : decode cX9_make 40 = .ok (.aload_n 0, 1) := by decide +kernel
theorem dX9_make_41 : decode cX9_make 41 = .ok (.iconst 0, 1) := by decide +kernel
theorem dX9_make_42 : decode cX9_make 42 = .ok (.putfield 135, 3) := by decide +kernel
theorem dX9_make_45 : decode cX9_make 45 = .ok (.aload_n 0, 1) := by decide +kernel
theorem dX9_make_46 : decode cX9_make 46 = .ok (.iconst (-1), 1) := by decide +kernel
theorem dX9_make_47 : decode cX9_make 47 = .ok (.putfield 138, 3) := by decide +kernel
theorem dX9_make_5 : decode cX9_make 5 = .ok (.bipush 8, 2) := by decide +kernel
theorem dX9_make_50 : decode cX9_make 50 = .ok (.aload_n 0, 1) := by decide +kernel
theorem dX9_make_51 : decode cX9_make 51 = .ok (.iconst (-1), 1) := by decide +kernel
theorem dX9_make_52 : decode cX9_make 52 = .ok (.putfield 162, 3) := by decide +kernel
theorem dX9_make_55 : decode cX9_make 55 = .ok (.aload_n 0, 1) := by decide +kernel
theorem dX9_make_56 : decode cX9_make 56 = .ok (.iconst 0, 1) := by decide +kernel
theorem dX9_make_57 : decode cX9_make 57 = .ok (.putfield 177, 3) := by decide +kernel
theorem dX9_make_60 : decode cX9_make 60 = .ok (.iconst 0, 1) := by decide +kernel
theorem dX9_make_61 : decode cX9_make 61 = .ok (.istore_n 2, 1) := by decide +kernel
theorem dX9_make_62 : decode cX9_make 62 = .ok (.iload_n 2, 1) := by decide +kernel
theorem dX9_make_63 : decode cX9_make 63 = .ok (.bipush 31, 2) := by decide +kernel
theorem dX9_make_65 : decode cX9_make 65 = .ok (.if_icmp .ge 21, 3) := by decide +kernel
theorem dX9_make_68 : decode cX9_make 68 = .ok (.aload_n 0, 1) := by decide +kernel
theorem dX9_make_69 : decode cX9_make 69 = .ok (.getfield 36, 3) := by decide +kernel
theorem dX9_make_7 : decode cX9_make 7 = .ok (.if_icmp .ge 12, 3) := by decide +kernel
theorem dX9_make_72 : decode cX9_make 72 = .ok (.bipush 31, 2) := by decide +kernel
theorem dX9_make_74 : decode cX9_make 74 = .ok (.iload_n 1, 1) := by decide +kernel
theorem dX9_make_75 : decode cX9_make 75 = .ok (.imul, 1) := by decide +kernel
theorem dX9_make_76 : decode cX9_make 76 = .ok (.iload_n 2, 1) := by decide +kernel
theorem dX9_make_77 : decode cX9_make 77 = .ok (.iadd, 1) := by decide +kernel
theorem dX9_make_78 : decode cX9_make 78 = .ok (.iconst 0, 1) := by decide +kernel
theorem dX9_make_79 : decode cX9_make 79 = .ok (.bastore, 1) := by decide +kernel
theorem dX9_make_80 : decode cX9_make 80 = .ok (.iinc 2 1, 3) := by decide +kernel
theorem dX9_make_83 : decode cX9_make 83 = .ok (.goto (-21), 3) := by decide +kernel
theorem dX9_make_86 : decode cX9_make 86 = .ok (.aload_n 0, 1) := by decide +kernel
theorem dX9_make_87 : decode cX9_make 87 = .ok (.getfield 135, 3) := by decide +kernel
theorem dX9_make_90 : decode cX9_make 90 = .ok (.ifCond .ne 19, 3) := by decide +kernel
theorem dX9_make_93 : decode cX9_make 93 = .ok (.aload_n 0, 1) := by decide +kernel
theorem dX9_make_94 : decode cX9_make 94 = .ok (.invokevirtual 150, 3) := by decide +kernel
theorem dX9_make_97 : decode cX9_make 97 = .ok (.iconst (-1), 1) := by decide +kernel
theorem dX9_make_98 : decode cX9_make 98 = .ok (.if_icmp .eq 11, 3) := by decide +kernel
theorem dX9_next_0 : decode cX9_next 0 = .ok (.aload_n 0, 1) := by decide +kernel
theorem dX9_next_1 : decode cX9_next 1 = .ok (.getfield 141, 3) := by decide +kernel
theorem dX9_next_4 : decode cX9_next 4 = .ok (.aload_n 0, 1) := by decide +kernel
theorem dX9_next_5 : decode cX9_next 5 = .ok (.getfield 144, 3) := by decide +kernel
theorem dX9_next_52 : decode cX9_next 52 = .ok (.aload_n 0, 1) := by decide +kernel
theorem dX9_next_53 : decode cX9_next 53 = .ok (.aload_n 0, 1) := by decide +kernel
theorem dX9_next_54 : decode cX9_next 54 = .ok (.getfield 141, 3) := by decide +kernel
theorem dX9_next_57 : decode cX9_next 57 = .ok (.putfield 147, 3) := by decide +kernel
theorem dX9_next_60 : decode cX9_next 60 = .ok (.aload_n 0, 1) := by decide +kernel
theorem dX9_next_61 : decode cX9_next 61 = .ok (.getfield 141, 3) := by decide +kernel
theorem dX9_next_64 : decode cX9_next 64 = .ok (.aload_n 0, 1) := by decide +kernel
theorem dX9_next_65 : decode cX9_next 65 = .ok (.getfield 144, 3) := by decide +kernel
theorem dX9_next_68 : decode cX9_next 68 = .ok (.if_icmp .ge 15, 3) := by decide +kernel
theorem dX9_next_8 : decode cX9_next 8 = .ok (.if_icmp .ge 44, 3) := by decide +kernel
theorem dX9_next_83 : decode cX9_next 83 = .ok (.iconst (-1), 1) := by decide +kernel
theorem dX9_next_84 : decode cX9_next 84 = .ok (.ireturn, 1) := by decide +kernel
def wp_X9_next : List Cond := .code yX9_next cX9_next 1 (some .int) :: ([.fieldLink RX9 141 "RecordBenchModel" "at" "I", .fieldLink RX9 144 "RecordBenchModel" "size" "I", .fieldLink RX9 147 "RecordBenchModel" "begun" "I"] ++ wsX90)
set_option maxHeartbeats 4000000 in
set_option maxRecDepth 100000 in
theorem c_X9_next (l : Launch) (dC : Nat → ClassId) (dI : Nat → Nat → Nat) (h0 : Nat) (fs : List Value) (hfs : fs.length = 60) (a0 : Nat) (fh0 : fs[0]? = some (.ref a0)) (fh11 : fs[11]? = some (.int 0)) (fh12 : fs[12]? = some (.int 0)) (fh13 : fs[13]? = some (.int 0)) (fh14 : fs[14]? = some (.int ((-1)))) (fh27 : fs[27]? = some (.int 0)) (sz : Nat) : Met l yX9_next wp_X9_next ({ frames := 0, cells := 0, slots := 0, locals := 0 }) (va_Pc [.ref h0] (Pr (dC, dI) [] [(h0, .inr (11, fs))] sz)) (va_Qi (fun r : Int32 => (fun (fs1 : List Value) => (r = -1) ∧ (fs1.length = 60) ∧ (fs1[0]? = some (.ref a0)) ∧ (fs1[11]? = some (.int 0)) ∧ (fs1[12]? = some (.int 0)) ∧ (fs1[13]? = some (.int 0)) ∧ (fs1[14]? = some (.int ((-1)))) ∧ (fs1[27]? = some (.int 0)))) (Bq (dC, dI) (fun (fs1 : List Value) => [(h0, .inr (11, fs1))]) (fun (fs1 : List Value) => []) (va_A [(h0, .inr (11, fs))] sz)) (va_A [(h0, .inr (11, fs))] sz)) 0 0 (va_A [(h0, .inr (11, fs))] sz) := by
  refine Met.ofW (cc := cX9_next) (maxL := 1) (ret := (some .int)) (by decide) rfl ?_
  intro p e s m args below meth c s₁ B hml hv
  obtain ⟨rfl, hsz, hP, hK, hD0, hN, hZ⟩ := hv
  have hx := B.exec
  have hb := B.bytes
  have hr := B.returns
  have hts := atoms_spec (ws := wp_X9_next) B.pre
  have hown : s.vm.findClass RX9 = some m.cls := findClass_of_methodNamed B.named
  have hlocks := B.notSynchronized
  have iRX9 : ∀ w ∈ u_ws RX9 TX9 60, w ∈ wp_X9_next := by decide +kernel
  subst hsz
  have hD := hD0.self (sz := s.heap.size)
  generalize hAe : va_A [(h0, .inr (11, fs))] s.heap.size = A at hD hZ ⊢
  have hA : ∀ q : Nat, s.heap.size ≤ q → A q := fun q h => by rw [← hAe]; exact Or.inr h
  have hS : va_S A s.heap s.heap [] := va_S.rf
  have hP : va_P (dC, dI) vwCl [(h0, .inr (11, fs))] s.heap := hP
  have hl := lv_entry ([.ref h0]) (n := 1) (Nat.le_of_ble_eq_true rfl)
  rw [lg_entry_eq]
  generalize (lg_sl ([.ref h0]) ++ List.replicate (1 - (lg_sl ([.ref h0])).length) Slot.unset).toArray = ls at hl ⊢
  have hl : lv_has ls 1 [(0, .ref h0)] := hl
  refine lv_aload_n hx hb dX9_next_0 rfl (lv_at hl 0 rfl) ?_
  refine va_get (D := (dC, dI)) (ci := 11) (v := .int 0) (C := RX9) (T := TX9) (N := 60) hx hb hts iRX9 hown hK hP 0 rfl rfl 11 (by decide) (hts (.fieldLink RX9 141 "RecordBenchModel" "at" "I") (by decide +kernel)) (fun _ h9 => h9) fh11 dX9_next_1 ?_
  refine lv_aload_n hx hb dX9_next_4 rfl (lv_at hl 0 rfl) ?_
  refine va_get (D := (dC, dI)) (ci := 11) (v := .int 0) (C := RX9) (T := TX9) (N := 60) hx hb hts iRX9 hown hK hP 0 rfl rfl 12 (by decide) (hts (.fieldLink RX9 144 "RecordBenchModel" "size" "I") (by decide +kernel)) (fun _ h9 => h9) fh12 dX9_next_5 ?_
  refine lv_icmp_ge (tgt := 52) hx hb dX9_next_8 (by decide) (fun c_1 => ?_) (fun c_1 => absurd (by decide) c_1)
  refine lv_aload_n hx hb dX9_next_52 rfl (lv_at hl 0 rfl) ?_
  refine lv_aload_n hx hb dX9_next_53 rfl (lv_at hl 0 rfl) ?_
  refine va_get (D := (dC, dI)) (ci := 11) (v := .int 0) (C := RX9) (T := TX9) (N := 60) hx hb hts iRX9 hown hK hP 0 rfl rfl 11 (by decide) (hts (.fieldLink RX9 141 "RecordBenchModel" "at" "I") (by decide +kernel)) (fun _ h9 => h9) fh11 dX9_next_54 ?_
  refine va_put (D := (dC, dI)) (ci := 11) (v := .int 0) (ty := .int) (C := RX9) (T := TX9) (N := 60) hx hb hts iRX9 tyX9 tyX9_ok nmX9 hown hK hP hD hS 0 rfl rfl 17 (by decide) (hts (.fieldLink RX9 147 "RecordBenchModel" "begun" "I") (by decide +kernel)) (fun _ h9 => h9) rfl (by decide +kernel) rfl rfl (by have := hfs; omega) dX9_next_57 (fun H locs hP hD hS => ?_)
  obtain ⟨fs_2, efs_2⟩ : ∃ y, y = fs.set 17 (.int 0) := ⟨_, rfl⟩
  rw [← efs_2] at hP hD
  have lfs_2 : fs_2.length = 60 := by rw [efs_2, List.length_set]; exact hfs
  have fs_2h11 : fs_2[11]? = some (.int 0) := by rw [efs_2, List.getElem?_set_ne (by decide)]; exact fh11
  have fs_2h12 : fs_2[12]? = some (.int 0) := by rw [efs_2, List.getElem?_set_ne (by decide)]; exact fh12
  have fs_2h13 : fs_2[13]? = some (.int 0) := by rw [efs_2, List.getElem?_set_ne (by decide)]; exact fh13
  have fs_2h14 : fs_2[14]? = some (.int ((-1))) := by rw [efs_2, List.getElem?_set_ne (by decide)]; exact fh14
  have fs_2h27 : fs_2[27]? = some (.int 0) := by rw [efs_2, List.getElem?_set_ne (by decide)]; exact fh27
  have fs_2h0 : fs_2[0]? = some (.ref a0) := by rw [efs_2, List.getElem?_set_ne (by decide)]; exact fh0
  have fs_2h17 : fs_2[17]? = some (.int 0) := by rw [efs_2, List.getElem?_set_self (by have := hfs; omega)]
  have hP : va_P (dC, dI) vwCl [(h0, .inr (11, fs_2))] H := hP
  have hD : va_D A [(h0, .inr (11, fs_2))] := hD
  refine lv_aload_n hx hb dX9_next_60 rfl (lv_at hl 0 rfl) ?_
  refine va_get (D := (dC, dI)) (ci := 11) (v := .int 0) (C := RX9) (T := TX9) (N := 60) hx hb hts iRX9 hown hK hP 0 rfl rfl 11 (by decide) (hts (.fieldLink RX9 141 "RecordBenchModel" "at" "I") (by decide +kernel)) (fun _ h9 => h9) fs_2h11 dX9_next_61 ?_
  refine lv_aload_n hx hb dX9_next_64 rfl (lv_at hl 0 rfl) ?_
  refine va_get (D := (dC, dI)) (ci := 11) (v := .int 0) (C := RX9) (T := TX9) (N := 60) hx hb hts iRX9 hown hK hP 0 rfl rfl 12 (by decide) (hts (.fieldLink RX9 144 "RecordBenchModel" "size" "I") (by decide +kernel)) (fun _ h9 => h9) fs_2h12 dX9_next_65 ?_
  refine lv_icmp_ge (tgt := 83) hx hb dX9_next_68 (by decide) (fun c_3 => ?_) (fun c_3 => absurd (by decide) c_3)
  refine lv_iconst (v := (-1)) hx hb dX9_next_83 (by decide) ?_
  have hP9 := hP.sub (ws' := [(h0, .inr (11, fs_2))]) [0] rfl
  have hD9 := hD.sub (ws' := [(h0, .inr (11, fs_2))]) [0] (by decide) rfl
  have hK9 := hK.sub (tys' := []) [] rfl
  exact W.iret (v := (-1)) hx hb hr (fun t ht hW => ⟨⟨(-1), fs_2, rfl, ⟨rfl, lfs_2, fs_2h0, fs_2h11, fs_2h12, fs_2h13, fs_2h14, fs_2h27⟩, by rw [ht]; exact hP9, va_K.moved hW.alike hK9, hD9⟩, hS.F ht⟩) hS.2.2 dX9_next_84
def wp_X9_make : List Cond := .code yX9_make cX9_make 3 (some .int) :: ([.fieldLink RX9 7 "RecordBenchModel" "told" "[Z", .fieldLink RX9 141 "RecordBenchModel" "at" "I", .fieldLink RX9 132 "RecordBenchModel" "taped" "I", .fieldLink RX9 144 "RecordBenchModel" "size" "I", .fieldLink RX9 135 "RecordBenchModel" "bad" "I", .fieldLink RX9 138 "RecordBenchModel" "badPlace" "I", .fieldLink RX9 162 "RecordBenchModel" "ended" "I", .fieldLink RX9 177 "RecordBenchModel" "fields" "I", .fieldLink RX9 36 "RecordBenchModel" "isThere" "[Z", .methodLink RX9 150 yX9_next, .instanceMethod yX9_next, .selects RX9 yX9_next yX9_next, .initialized RX9, .fieldLink RX9 236 "RecordBenchModel" "fault" "I", .fieldLink RX9 42 "RecordBenchModel" "faultPlace" "I", .code yX9_next cX9_next 1 (some .int), .fieldLink RX9 147 "RecordBenchModel" "begun" "I"] ++ wsX90)
set_option maxRecDepth 20000 in
theorem gp_X9_make_X9_next_150 : GoodIn wp_X9_make (wsV RX9 150 RX9 yX9_next wp_X9_next) := goodIn_p _ [16] rfl (by decide +kernel)
set_option maxHeartbeats 4000000 in
set_option maxRecDepth 100000 in
theorem c_X9_make (l : Launch) (dC : Nat → ClassId) (dI : Nat → Nat → Nat) (h0 : Nat) (fs : List Value) (hfs : fs.length = 60) (a0 : Nat) (cZ : ClassId) (a8 : Nat) (c8 : ClassId) (fh0 : fs[0]? = some (.ref a0)) (fh8 : fs[8]? = some (.ref a8)) (fh10 : fs[10]? = some (.int 0)) (p0 : Int32) (sz : Nat) : Met l yX9_make wp_X9_make ({ frames := 1, cells := 0, slots := 0, locals := 24 }) (va_Pc [.ref h0, .int p0] (Pr (dC, dI) [(cZ, .boolean), (c8, .boolean)] [(h0, .inr (11, fs)), (a0, .inl (cZ, 8, .inl (fun _ => 0))), (a8, .inl (c8, 248, .inl (fun _ => 0)))] sz)) (va_Qi (fun r : Int32 => (fun _ : Unit => r = if p0 < 0 ∨ 8 ≤ p0 then -2 else 0)) (Bq (dC, dI) (fun _ : Unit => []) (fun _ : Unit => []) (va_A [(h0, .inr (11, fs)), (a0, .inl (cZ, 8, .inl (fun _ => 0))), (a8, .inl (c8, 248, .inl (fun _ => 0)))] sz)) (va_A [(h0, .inr (11, fs)), (a0, .inl (cZ, 8, .inl (fun _ => 0))), (a8, .inl (c8, 248, .inl (fun _ => 0)))] sz)) 0 0 (va_A [(h0, .inr (11, fs)), (a0, .inl (cZ, 8, .inl (fun _ => 0))), (a8, .inl (c8, 248, .inl (fun _ => 0)))] sz) := by
  refine Met.ofW (cc := cX9_make) (maxL := 3) (ret := (some .int)) (by decide) rfl ?_
  intro p e s m args below meth c s₁ B hml hv
  obtain ⟨rfl, hsz, hP, hK, hD0, hN, hZ⟩ := hv
  have hx := B.exec
  have hb := B.bytes
  have hr := B.returns
  have hts := atoms_spec (ws := wp_X9_make) B.pre
  have hown : s.vm.findClass RX9 = some m.cls := findClass_of_methodNamed B.named
  have hlocks := B.notSynchronized
  have iRX9 : ∀ w ∈ u_ws RX9 TX9 60, w ∈ wp_X9_make := by decide +kernel
  subst hsz
  have hD := hD0.self (sz := s.heap.size)
  generalize hAe : va_A [(h0, .inr (11, fs)), (a0, .inl (cZ, 8, .inl (fun _ => 0))), (a8, .inl (c8, 248, .inl (fun _ => 0)))] s.heap.size = A at hD hZ ⊢
  have hA : ∀ q : Nat, s.heap.size ≤ q → A q := fun q h => by rw [← hAe]; exact Or.inr h
  have hS : va_S A s.heap s.heap [] := va_S.rf
  have hP : va_P (dC, dI) vwCl [(h0, .inr (11, fs)), (a0, .inl (cZ, 8, .inl (fun _ => 0))), (a8, .inl (c8, 248, .inl (fun _ => 0)))] s.heap := hP
  have hl := lv_entry ([.ref h0, .int p0]) (n := 3) (Nat.le_of_ble_eq_true rfl)
  rw [lg_entry_eq]
  generalize (lg_sl ([.ref h0, .int p0]) ++ List.replicate (3 - (lg_sl ([.ref h0, .int p0])).length) Slot.unset).toArray = ls at hl ⊢
  have hl : lv_has ls 3 [(0, .ref h0), (1, .int p0)] := hl
  refine lv_iload_n hx hb dX9_make_0 rfl (lv_at hl 1 rfl) ?_
  refine lv_if_lt (tgt := 19) hx hb dX9_make_1 (by decide) (fun c_1 => ?_) (fun c_1 => ?_)
  · refine lv_bipush (v := (-2)) hx hb dX9_make_19 (by decide) ?_
    have hP9 := hP.sub (ws' := []) [] rfl
    have hD9 := hD.sub (ws' := []) [] (by decide) rfl
    have hK9 := hK.sub (tys' := []) [] rfl
    exact W.iret (v := (-2)) hx hb hr (fun t ht hW => ⟨⟨(-2), (), rfl, (if_pos (Or.inl c_1)).symm, by rw [ht]; exact hP9, va_K.moved hW.alike hK9, hD9⟩, hS.F ht⟩) hS.2.2 dX9_make_21
  · refine lv_iload_n hx hb dX9_make_4 rfl (lv_at hl 1 rfl) ?_
    refine lv_bipush (v := 8) hx hb dX9_make_5 (by decide) ?_
    refine lv_icmp_ge (tgt := 19) hx hb dX9_make_7 (by decide) (fun c_2 => ?_) (fun c_2 => ?_)
    · refine lv_bipush (v := (-2)) hx hb dX9_make_19 (by decide) ?_
      have hP9 := hP.sub (ws' := []) [] rfl
      have hD9 := hD.sub (ws' := []) [] (by decide) rfl
      have hK9 := hK.sub (tys' := []) [] rfl
      exact W.iret (v := (-2)) hx hb hr (fun t ht hW => ⟨⟨(-2), (), rfl, (if_pos (Or.inr c_2)).symm, by rw [ht]; exact hP9, va_K.moved hW.alike hK9, hD9⟩, hS.F ht⟩) hS.2.2 dX9_make_21
    · refine lv_aload_n hx hb dX9_make_10 rfl (lv_at hl 0 rfl) ?_
      refine va_get (D := (dC, dI)) (ci := 11) (v := .ref a0) (C := RX9) (T := TX9) (N := 60) hx hb hts iRX9 hown hK hP 0 rfl rfl 0 (by decide) (hts (.fieldLink RX9 7 "RecordBenchModel" "told" "[Z") (by decide +kernel)) (fun _ h9 => h9) fh0 dX9_make_11 ?_
      refine lv_iload_n hx hb dX9_make_14 rfl (lv_at hl 1 rfl) ?_
      refine va_zald hx hb hK hP 1 0 rfl rfl (in_of 8 rfl (by decide) c_1 c_2) dX9_make_15 ?_
      refine W_toi (y := 0) (rfl) ?_
      refine lv_if_eq (tgt := 22) hx hb dX9_make_16 (by decide) (fun c_3 => ?_) (fun c_3 => absurd (by decide) c_3)
      refine lv_aload_n hx hb dX9_make_22 rfl (lv_at hl 0 rfl) ?_
      refine lv_iconst (v := 0) hx hb dX9_make_23 (by decide) ?_
      refine va_put (D := (dC, dI)) (ci := 11) (v := .int 0) (ty := .int) (C := RX9) (T := TX9) (N := 60) hx hb hts iRX9 tyX9 tyX9_ok nmX9 hown hK hP hD hS 0 rfl rfl 11 (by decide) (hts (.fieldLink RX9 141 "RecordBenchModel" "at" "I") (by decide +kernel)) (fun _ h9 => h9) rfl (by decide +kernel) rfl rfl (by have := hfs; omega) dX9_make_24 (fun H locs hP hD hS => ?_)
      obtain ⟨fs_4, efs_4⟩ : ∃ y, y = fs.set 11 (.int 0) := ⟨_, rfl⟩
      rw [← efs_4] at hP hD
      have lfs_4 : fs_4.length = 60 := by rw [efs_4, List.length_set]; exact hfs
      have fs_4h0 : fs_4[0]? = some (.ref a0) := by rw [efs_4, List.getElem?_set_ne (by decide)]; exact fh0
      have fs_4h8 : fs_4[8]? = some (.ref a8) := by rw [efs_4, List.getElem?_set_ne (by decide)]; exact fh8
      have fs_4h10 : fs_4[10]? = some (.int 0) := by rw [efs_4, List.getElem?_set_ne (by decide)]; exact fh10
      have fs_4h11 : fs_4[11]? = some (.int 0) := by rw [efs_4, List.getElem?_set_self (by have := hfs; omega)]
      have hP : va_P (dC, dI) vwCl [(h0, .inr (11, fs_4)), (a0, .inl (cZ, 8, .inl (fun _ => 0))), (a8, .inl (c8, 248, .inl (fun _ => 0)))] H := hP
      have hD : va_D A [(h0, .inr (11, fs_4)), (a0, .inl (cZ, 8, .inl (fun _ => 0))), (a8, .inl (c8, 248, .inl (fun _ => 0)))] := hD
      refine lv_aload_n hx hb dX9_make_27 rfl (lv_at hl 0 rfl) ?_
      refine lv_aload_n hx hb dX9_make_28 rfl (lv_at hl 0 rfl) ?_
      refine va_get (D := (dC, dI)) (ci := 11) (v := .int 0) (C := RX9) (T := TX9) (N := 60) hx hb hts iRX9 hown hK hP 0 rfl rfl 10 (by decide) (hts (.fieldLink RX9 132 "RecordBenchModel" "taped" "I") (by decide +kernel)) (fun _ h9 => h9) fs_4h10 dX9_make_29 ?_
      refine va_put (D := (dC, dI)) (ci := 11) (v := .int 0) (ty := .int) (C := RX9) (T := TX9) (N := 60) hx hb hts iRX9 tyX9 tyX9_ok nmX9 hown hK hP hD hS 0 rfl rfl 12 (by decide) (hts (.fieldLink RX9 144 "RecordBenchModel" "size" "I") (by decide +kernel)) (fun _ h9 => h9) rfl (by decide +kernel) rfl rfl (by have := lfs_4; omega) dX9_make_32 (fun H locs hP hD hS => ?_)
      obtain ⟨fs_5, efs_5⟩ : ∃ y, y = fs_4.set 12 (.int 0) := ⟨_, rfl⟩
      rw [← efs_5] at hP hD
      have lfs_5 : fs_5.length = 60 := by rw [efs_5, List.length_set]; exact lfs_4
      have fs_5h0 : fs_5[0]? = some (.ref a0) := by rw [efs_5, List.getElem?_set_ne (by decide)]; exact fs_4h0
      have fs_5h8 : fs_5[8]? = some (.ref a8) := by rw [efs_5, List.getElem?_set_ne (by decide)]; exact fs_4h8
      have fs_5h10 : fs_5[10]? = some (.int 0) := by rw [efs_5, List.getElem?_set_ne (by decide)]; exact fs_4h10
      have fs_5h11 : fs_5[11]? = some (.int 0) := by rw [efs_5, List.getElem?_set_ne (by decide)]; exact fs_4h11
      have fs_5h12 : fs_5[12]? = some (.int 0) := by rw [efs_5, List.getElem?_set_self (by have := lfs_4; omega)]
      have hP : va_P (dC, dI) vwCl [(h0, .inr (11, fs_5)), (a0, .inl (cZ, 8, .inl (fun _ => 0))), (a8, .inl (c8, 248, .inl (fun _ => 0)))] H := hP
      have hD : va_D A [(h0, .inr (11, fs_5)), (a0, .inl (cZ, 8, .inl (fun _ => 0))), (a8, .inl (c8, 248, .inl (fun _ => 0)))] := hD
      refine lv_aload_n hx hb dX9_make_35 rfl (lv_at hl 0 rfl) ?_
      refine lv_iconst (v := 0) hx hb dX9_make_36 (by decide) ?_
      refine va_put (D := (dC, dI)) (ci := 11) (v := .int 0) (ty := .int) (C := RX9) (T := TX9) (N := 60) hx hb hts iRX9 tyX9 tyX9_ok nmX9 hown hK hP hD hS 0 rfl rfl 10 (by decide) (hts (.fieldLink RX9 132 "RecordBenchModel" "taped" "I") (by decide +kernel)) (fun _ h9 => h9) rfl (by decide +kernel) rfl rfl (by have := lfs_5; omega) dX9_make_37 (fun H locs hP hD hS => ?_)
      obtain ⟨fs_6, efs_6⟩ : ∃ y, y = fs_5.set 10 (.int 0) := ⟨_, rfl⟩
      rw [← efs_6] at hP hD
      have lfs_6 : fs_6.length = 60 := by rw [efs_6, List.length_set]; exact lfs_5
      have fs_6h0 : fs_6[0]? = some (.ref a0) := by rw [efs_6, List.getElem?_set_ne (by decide)]; exact fs_5h0
      have fs_6h8 : fs_6[8]? = some (.ref a8) := by rw [efs_6, List.getElem?_set_ne (by decide)]; exact fs_5h8
      have fs_6h11 : fs_6[11]? = some (.int 0) := by rw [efs_6, List.getElem?_set_ne (by decide)]; exact fs_5h11
      have fs_6h12 : fs_6[12]? = some (.int 0) := by rw [efs_6, List.getElem?_set_ne (by decide)]; exact fs_5h12
      have fs_6h10 : fs_6[10]? = some (.int 0) := by rw [efs_6, List.getElem?_set_self (by have := lfs_5; omega)]
      have hP : va_P (dC, dI) vwCl [(h0, .inr (11, fs_6)), (a0, .inl (cZ, 8, .inl (fun _ => 0))), (a8, .inl (c8, 248, .inl (fun _ => 0)))] H := hP
      have hD : va_D A [(h0, .inr (11, fs_6)), (a0, .inl (cZ, 8, .inl (fun _ => 0))), (a8, .inl (c8, 248, .inl (fun _ => 0)))] := hD
      refine lv_aload_n hx hb dX9_make_40 rfl (lv_at hl 0 rfl) ?_
      refine lv_iconst (v := 0) hx hb dX9_make_41 (by decide) ?_
      refine va_put (D := (dC, dI)) (ci := 11) (v := .int 0) (ty := .int) (C := RX9) (T := TX9) (N := 60) hx hb hts iRX9 tyX9 tyX9_ok nmX9 hown hK hP hD hS 0 rfl rfl 13 (by decide) (hts (.fieldLink RX9 135 "RecordBenchModel" "bad" "I") (by decide +kernel)) (fun _ h9 => h9) rfl (by decide +kernel) rfl rfl (by have := lfs_6; omega) dX9_make_42 (fun H locs hP hD hS => ?_)
      obtain ⟨fs_7, efs_7⟩ : ∃ y, y = fs_6.set 13 (.int 0) := ⟨_, rfl⟩
      rw [← efs_7] at hP hD
      have lfs_7 : fs_7.length = 60 := by rw [efs_7, List.length_set]; exact lfs_6
      have fs_7h0 : fs_7[0]? = some (.ref a0) := by rw [efs_7, List.getElem?_set_ne (by decide)]; exact fs_6h0
      have fs_7h8 : fs_7[8]? = some (.ref a8) := by rw [efs_7, List.getElem?_set_ne (by decide)]; exact fs_6h8
      have fs_7h11 : fs_7[11]? = some (.int 0) := by rw [efs_7, List.getElem?_set_ne (by decide)]; exact fs_6h11
      have fs_7h12 : fs_7[12]? = some (.int 0) := by rw [efs_7, List.getElem?_set_ne (by decide)]; exact fs_6h12
      have fs_7h10 : fs_7[10]? = some (.int 0) := by rw [efs_7, List.getElem?_set_ne (by decide)]; exact fs_6h10
      have fs_7h13 : fs_7[13]? = some (.int 0) := by rw [efs_7, List.getElem?_set_self (by have := lfs_6; omega)]
      have hP : va_P (dC, dI) vwCl [(h0, .inr (11, fs_7)), (a0, .inl (cZ, 8, .inl (fun _ => 0))), (a8, .inl (c8, 248, .inl (fun _ => 0)))] H := hP
      have hD : va_D A [(h0, .inr (11, fs_7)), (a0, .inl (cZ, 8, .inl (fun _ => 0))), (a8, .inl (c8, 248, .inl (fun _ => 0)))] := hD
      refine lv_aload_n hx hb dX9_make_45 rfl (lv_at hl 0 rfl) ?_
      refine lv_iconst (v := (-1)) hx hb dX9_make_46 (by decide) ?_
      refine va_put (D := (dC, dI)) (ci := 11) (v := .int ((-1))) (ty := .int) (C := RX9) (T := TX9) (N := 60) hx hb hts iRX9 tyX9 tyX9_ok nmX9 hown hK hP hD hS 0 rfl rfl 14 (by decide) (hts (.fieldLink RX9 138 "RecordBenchModel" "badPlace" "I") (by decide +kernel)) (fun _ h9 => h9) rfl (by decide +kernel) rfl rfl (by have := lfs_7; omega) dX9_make_47 (fun H locs hP hD hS => ?_)
      obtain ⟨fs_8, efs_8⟩ : ∃ y, y = fs_7.set 14 (.int ((-1))) := ⟨_, rfl⟩
      rw [← efs_8] at hP hD
      have lfs_8 : fs_8.length = 60 := by rw [efs_8, List.length_set]; exact lfs_7
      have fs_8h0 : fs_8[0]? = some (.ref a0) := by rw [efs_8, List.getElem?_set_ne (by decide)]; exact fs_7h0
      have fs_8h8 : fs_8[8]? = some (.ref a8) := by rw [efs_8, List.getElem?_set_ne (by decide)]; exact fs_7h8
      have fs_8h11 : fs_8[11]? = some (.int 0) := by rw [efs_8, List.getElem?_set_ne (by decide)]; exact fs_7h11
      have fs_8h12 : fs_8[12]? = some (.int 0) := by rw [efs_8, List.getElem?_set_ne (by decide)]; exact fs_7h12
      have fs_8h10 : fs_8[10]? = some (.int 0) := by rw [efs_8, List.getElem?_set_ne (by decide)]; exact fs_7h10
      have fs_8h13 : fs_8[13]? = some (.int 0) := by rw [efs_8, List.getElem?_set_ne (by decide)]; exact fs_7h13
      have fs_8h14 : fs_8[14]? = some (.int ((-1))) := by rw [efs_8, List.getElem?_set_self (by have := lfs_7; omega)]
      have hP : va_P (dC, dI) vwCl [(h0, .inr (11, fs_8)), (a0, .inl (cZ, 8, .inl (fun _ => 0))), (a8, .inl (c8, 248, .inl (fun _ => 0)))] H := hP
      have hD : va_D A [(h0, .inr (11, fs_8)), (a0, .inl (cZ, 8, .inl (fun _ => 0))), (a8, .inl (c8, 248, .inl (fun _ => 0)))] := hD
      refine lv_aload_n hx hb dX9_make_50 rfl (lv_at hl 0 rfl) ?_
      refine lv_iconst (v := (-1)) hx hb dX9_make_51 (by decide) ?_
      refine va_put (D := (dC, dI)) (ci := 11) (v := .int ((-1))) (ty := .int) (C := RX9) (T := TX9) (N := 60) hx hb hts iRX9 tyX9 tyX9_ok nmX9 hown hK hP hD hS 0 rfl rfl 18 (by decide) (hts (.fieldLink RX9 162 "RecordBenchModel" "ended" "I") (by decide +kernel)) (fun _ h9 => h9) rfl (by decide +kernel) rfl rfl (by have := lfs_8; omega) dX9_make_52 (fun H locs hP hD hS => ?_)
      obtain ⟨fs_9, efs_9⟩ : ∃ y, y = fs_8.set 18 (.int ((-1))) := ⟨_, rfl⟩
      rw [← efs_9] at hP hD
      have lfs_9 : fs_9.length = 60 := by rw [efs_9, List.length_set]; exact lfs_8
      have fs_9h0 : fs_9[0]? = some (.ref a0) := by rw [efs_9, List.getElem?_set_ne (by decide)]; exact fs_8h0
      have fs_9h8 : fs_9[8]? = some (.ref a8) := by rw [efs_9, List.getElem?_set_ne (by decide)]; exact fs_8h8
      have fs_9h11 : fs_9[11]? = some (.int 0) := by rw [efs_9, List.getElem?_set_ne (by decide)]; exact fs_8h11
      have fs_9h12 : fs_9[12]? = some (.int 0) := by rw [efs_9, List.getElem?_set_ne (by decide)]; exact fs_8h12
      have fs_9h10 : fs_9[10]? = some (.int 0) := by rw [efs_9, List.getElem?_set_ne (by decide)]; exact fs_8h10
      have fs_9h13 : fs_9[13]? = some (.int 0) := by rw [efs_9, List.getElem?_set_ne (by decide)]; exact fs_8h13
      have fs_9h14 : fs_9[14]? = some (.int ((-1))) := by rw [efs_9, List.getElem?_set_ne (by decide)]; exact fs_8h14
      have fs_9h18 : fs_9[18]? = some (.int ((-1))) := by rw [efs_9, List.getElem?_set_self (by have := lfs_8; omega)]
      have hP : va_P (dC, dI) vwCl [(h0, .inr (11, fs_9)), (a0, .inl (cZ, 8, .inl (fun _ => 0))), (a8, .inl (c8, 248, .inl (fun _ => 0)))] H := hP
      have hD : va_D A [(h0, .inr (11, fs_9)), (a0, .inl (cZ, 8, .inl (fun _ => 0))), (a8, .inl (c8, 248, .inl (fun _ => 0)))] := hD
      refine lv_aload_n hx hb dX9_make_55 rfl (lv_at hl 0 rfl) ?_
      refine lv_iconst (v := 0) hx hb dX9_make_56 (by decide) ?_
      refine va_put (D := (dC, dI)) (ci := 11) (v := .int 0) (ty := .int) (C := RX9) (T := TX9) (N := 60) hx hb hts iRX9 tyX9 tyX9_ok nmX9 hown hK hP hD hS 0 rfl rfl 27 (by decide) (hts (.fieldLink RX9 177 "RecordBenchModel" "fields" "I") (by decide +kernel)) (fun _ h9 => h9) rfl (by decide +kernel) rfl rfl (by have := lfs_9; omega) dX9_make_57 (fun H locs hP hD hS => ?_)
      obtain ⟨fs_10, efs_10⟩ : ∃ y, y = fs_9.set 27 (.int 0) := ⟨_, rfl⟩
      rw [← efs_10] at hP hD
      have lfs_10 : fs_10.length = 60 := by rw [efs_10, List.length_set]; exact lfs_9
      have fs_10h0 : fs_10[0]? = some (.ref a0) := by rw [efs_10, List.getElem?_set_ne (by decide)]; exact fs_9h0
      have fs_10h8 : fs_10[8]? = some (.ref a8) := by rw [efs_10, List.getElem?_set_ne (by decide)]; exact fs_9h8
      have fs_10h11 : fs_10[11]? = some (.int 0) := by rw [efs_10, List.getElem?_set_ne (by decide)]; exact fs_9h11
      have fs_10h12 : fs_10[12]? = some (.int 0) := by rw [efs_10, List.getElem?_set_ne (by decide)]; exact fs_9h12
      have fs_10h10 : fs_10[10]? = some (.int 0) := by rw [efs_10, List.getElem?_set_ne (by decide)]; exact fs_9h10
      have fs_10h13 : fs_10[13]? = some (.int 0) := by rw [efs_10, List.getElem?_set_ne (by decide)]; exact fs_9h13
      have fs_10h14 : fs_10[14]? = some (.int ((-1))) := by rw [efs_10, List.getElem?_set_ne (by decide)]; exact fs_9h14
      have fs_10h18 : fs_10[18]? = some (.int ((-1))) := by rw [efs_10, List.getElem?_set_ne (by decide)]; exact fs_9h18
      have fs_10h27 : fs_10[27]? = some (.int 0) := by rw [efs_10, List.getElem?_set_self (by have := lfs_9; omega)]
      have hP : va_P (dC, dI) vwCl [(h0, .inr (11, fs_10)), (a0, .inl (cZ, 8, .inl (fun _ => 0))), (a8, .inl (c8, 248, .inl (fun _ => 0)))] H := hP
      have hD : va_D A [(h0, .inr (11, fs_10)), (a0, .inl (cZ, 8, .inl (fun _ => 0))), (a8, .inl (c8, 248, .inl (fun _ => 0)))] := hD
      refine lv_iconst (v := 0) hx hb dX9_make_60 (by decide) ?_
      refine lv_istore_n (lv' := [(2, .int 0), (0, .ref h0), (1, .int p0)]) hx hb dX9_make_61 rfl hl (by decide) rfl (fun ls hl => ?_)
      refine lv_iload_n hx hb dX9_make_62 rfl (lv_at hl 0 rfl) ?_
      refine lv_bipush (v := 31) hx hb dX9_make_63 (by decide) ?_
      refine lv_icmp_ge (tgt := 86) hx hb dX9_make_65 (by decide) (fun c_11 => absurd c_11 (by decide)) (fun c_11 => ?_)
      refine lv_aload_n hx hb dX9_make_68 rfl (lv_at hl 1 rfl) ?_
      refine va_get (D := (dC, dI)) (ci := 11) (v := .ref a8) (C := RX9) (T := TX9) (N := 60) hx hb hts iRX9 hown hK hP 0 rfl rfl 8 (by decide) (hts (.fieldLink RX9 36 "RecordBenchModel" "isThere" "[Z") (by decide +kernel)) (fun _ h9 => h9) fs_10h8 dX9_make_69 ?_
      refine lv_bipush (v := 31) hx hb dX9_make_72 (by decide) ?_
      refine lv_iload_n hx hb dX9_make_74 rfl (lv_at hl 2 rfl) ?_
      refine lv_imul hx hb dX9_make_75 ?_
      refine lv_topi (fun z_12 ez_12 => ?_)
      refine lv_iload_n hx hb dX9_make_76 rfl (lv_at hl 0 rfl) ?_
      refine lv_iadd hx hb dX9_make_77 ?_
      refine lv_topi (fun z_13 ez_13 => ?_)
      refine lv_iconst (v := 0) hx hb dX9_make_78 (by decide) ?_
      refine va_zast hx hb hK hP hD hS 2 1 rfl rfl (by rw [ez_13, ez_12]; exact in_mn (in_of 8 rfl (by decide) c_1 c_2) 0 (by decide)) dX9_make_79 (fun H locs hP hD hS => ?_)
      obtain ⟨f_14, ef_14⟩ : ∃ y : Nat → Int32, y = upd (fun _ => 0) (z_13 : Int32).toNatClampNeg (vp_nar .boolean 0) := ⟨_, rfl⟩
      have hP : va_P (dC, dI) vwCl [(h0, .inr (11, fs_10)), (a0, .inl (cZ, 8, .inl (fun _ => 0))), (a8, .inl (c8, 248, .inl f_14))] H := by rw [ef_14]; exact hP
      have hD : va_D A [(h0, .inr (11, fs_10)), (a0, .inl (cZ, 8, .inl (fun _ => 0))), (a8, .inl (c8, 248, .inl f_14))] := by rw [ef_14]; exact hD
      refine lv_iinc (v := 1) (lv' := [(2, .int 1), (0, .ref h0), (1, .int p0)]) hx hb dX9_make_80 hl (k := 0) rfl (by decide) (by decide) rfl (fun ls hl => ?_)
      refine lv_goto (tgt := 62) hx hb dX9_make_83 (by decide) ?_
      refine lv_iload_n hx hb dX9_make_62 rfl (lv_at hl 0 rfl) ?_
      refine lv_bipush (v := 31) hx hb dX9_make_63 (by decide) ?_
      refine lv_icmp_ge (tgt := 86) hx hb dX9_make_65 (by decide) (fun c_15 => absurd c_15 (by decide)) (fun c_15 => ?_)
      refine lv_aload_n hx hb dX9_make_68 rfl (lv_at hl 1 rfl) ?_
      refine va_get (D := (dC, dI)) (ci := 11) (v := .ref a8) (C := RX9) (T := TX9) (N := 60) hx hb hts iRX9 hown hK hP 0 rfl rfl 8 (by decide) (hts (.fieldLink RX9 36 "RecordBenchModel" "isThere" "[Z") (by decide +kernel)) (fun _ h9 => h9) fs_10h8 dX9_make_69 ?_
      refine lv_bipush (v := 31) hx hb dX9_make_72 (by decide) ?_
      refine lv_iload_n hx hb dX9_make_74 rfl (lv_at hl 2 rfl) ?_
      refine lv_imul hx hb dX9_make_75 ?_
      refine lv_topi (fun z_16 ez_16 => ?_)
      refine lv_iload_n hx hb dX9_make_76 rfl (lv_at hl 0 rfl) ?_
      refine lv_iadd hx hb dX9_make_77 ?_
      refine lv_topi (fun z_17 ez_17 => ?_)
      refine lv_iconst (v := 0) hx hb dX9_make_78 (by decide) ?_
      refine va_zast hx hb hK hP hD hS 2 1 rfl rfl (by rw [ez_17, ez_16]; exact in_mn (in_of 8 rfl (by decide) c_1 c_2) 1 (by decide)) dX9_make_79 (fun H locs hP hD hS => ?_)
      obtain ⟨f_18, ef_18⟩ : ∃ y : Nat → Int32, y = upd f_14 (z_17 : Int32).toNatClampNeg (vp_nar .boolean 0) := ⟨_, rfl⟩
      have hP : va_P (dC, dI) vwCl [(h0, .inr (11, fs_10)), (a0, .inl (cZ, 8, .inl (fun _ => 0))), (a8, .inl (c8, 248, .inl f_18))] H := by rw [ef_18]; exact hP
      have hD : va_D A [(h0, .inr (11, fs_10)), (a0, .inl (cZ, 8, .inl (fun _ => 0))), (a8, .inl (c8, 248, .inl f_18))] := by rw [ef_18]; exact hD
      refine lv_iinc (v := 2) (lv' := [(2, .int 2), (0, .ref h0), (1, .int p0)]) hx hb dX9_make_80 hl (k := 0) rfl (by decide) (by decide) rfl (fun ls hl => ?_)
      refine lv_goto (tgt := 62) hx hb dX9_make_83 (by decide) ?_
      refine lv_iload_n hx hb dX9_make_62 rfl (lv_at hl 0 rfl) ?_
      refine lv_bipush (v := 31) hx hb dX9_make_63 (by decide) ?_
      refine lv_icmp_ge (tgt := 86) hx hb dX9_make_65 (by decide) (fun c_19 => absurd c_19 (by decide)) (fun c_19 => ?_)
      refine lv_aload_n hx hb dX9_make_68 rfl (lv_at hl 1 rfl) ?_
      refine va_get (D := (dC, dI)) (ci := 11) (v := .ref a8) (C := RX9) (T := TX9) (N := 60) hx hb hts iRX9 hown hK hP 0 rfl rfl 8 (by decide) (hts (.fieldLink RX9 36 "RecordBenchModel" "isThere" "[Z") (by decide +kernel)) (fun _ h9 => h9) fs_10h8 dX9_make_69 ?_
      refine lv_bipush (v := 31) hx hb dX9_make_72 (by decide) ?_
      refine lv_iload_n hx hb dX9_make_74 rfl (lv_at hl 2 rfl) ?_
      refine lv_imul hx hb dX9_make_75 ?_
      refine lv_topi (fun z_20 ez_20 => ?_)
      refine lv_iload_n hx hb dX9_make_76 rfl (lv_at hl 0 rfl) ?_
      refine lv_iadd hx hb dX9_make_77 ?_
      refine lv_topi (fun z_21 ez_21 => ?_)
      refine lv_iconst (v := 0) hx hb dX9_make_78 (by decide) ?_
      refine va_zast hx hb hK hP hD hS 2 1 rfl rfl (by rw [ez_21, ez_20]; exact in_mn (in_of 8 rfl (by decide) c_1 c_2) 2 (by decide)) dX9_make_79 (fun H locs hP hD hS => ?_)
      obtain ⟨f_22, ef_22⟩ : ∃ y : Nat → Int32, y = upd f_18 (z_21 : Int32).toNatClampNeg (vp_nar .boolean 0) := ⟨_, rfl⟩
      have hP : va_P (dC, dI) vwCl [(h0, .inr (11, fs_10)), (a0, .inl (cZ, 8, .inl (fun _ => 0))), (a8, .inl (c8, 248, .inl f_22))] H := by rw [ef_22]; exact hP
      have hD : va_D A [(h0, .inr (11, fs_10)), (a0, .inl (cZ, 8, .inl (fun _ => 0))), (a8, .inl (c8, 248, .inl f_22))] := by rw [ef_22]; exact hD
      refine lv_iinc (v := 3) (lv' := [(2, .int 3), (0, .ref h0), (1, .int p0)]) hx hb dX9_make_80 hl (k := 0) rfl (by decide) (by decide) rfl (fun ls hl => ?_)
      refine lv_goto (tgt := 62) hx hb dX9_make_83 (by decide) ?_
      refine lv_iload_n hx hb dX9_make_62 rfl (lv_at hl 0 rfl) ?_
      refine lv_bipush (v := 31) hx hb dX9_make_63 (by decide) ?_
      refine lv_icmp_ge (tgt := 86) hx hb dX9_make_65 (by decide) (fun c_23 => absurd c_23 (by decide)) (fun c_23 => ?_)
      refine lv_aload_n hx hb dX9_make_68 rfl (lv_at hl 1 rfl) ?_
      refine va_get (D := (dC, dI)) (ci := 11) (v := .ref a8) (C := RX9) (T := TX9) (N := 60) hx hb hts iRX9 hown hK hP 0 rfl rfl 8 (by decide) (hts (.fieldLink RX9 36 "RecordBenchModel" "isThere" "[Z") (by decide +kernel)) (fun _ h9 => h9) fs_10h8 dX9_make_69 ?_
      refine lv_bipush (v := 31) hx hb dX9_make_72 (by decide) ?_
      refine lv_iload_n hx hb dX9_make_74 rfl (lv_at hl 2 rfl) ?_
      refine lv_imul hx hb dX9_make_75 ?_
      refine lv_topi (fun z_24 ez_24 => ?_)
      refine lv_iload_n hx hb dX9_make_76 rfl (lv_at hl 0 rfl) ?_
      refine lv_iadd hx hb dX9_make_77 ?_
      refine lv_topi (fun z_25 ez_25 => ?_)
      refine lv_iconst (v := 0) hx hb dX9_make_78 (by decide) ?_
      refine va_zast hx hb hK hP hD hS 2 1 rfl rfl (by rw [ez_25, ez_24]; exact in_mn (in_of 8 rfl (by decide) c_1 c_2) 3 (by decide)) dX9_make_79 (fun H locs hP hD hS => ?_)
      obtain ⟨f_26, ef_26⟩ : ∃ y : Nat → Int32, y = upd f_22 (z_25 : Int32).toNatClampNeg (vp_nar .boolean 0) := ⟨_, rfl⟩
      have hP : va_P (dC, dI) vwCl [(h0, .inr (11, fs_10)), (a0, .inl (cZ, 8, .inl (fun _ => 0))), (a8, .inl (c8, 248, .inl f_26))] H := by rw [ef_26]; exact hP
      have hD : va_D A [(h0, .inr (11, fs_10)), (a0, .inl (cZ, 8, .inl (fun _ => 0))), (a8, .inl (c8, 248, .inl f_26))] := by rw [ef_26]; exact hD
      refine lv_iinc (v := 4) (lv' := [(2, .int 4), (0, .ref h0), (1, .int p0)]) hx hb dX9_make_80 hl (k := 0) rfl (by decide) (by decide) rfl (fun ls hl => ?_)
      refine lv_goto (tgt := 62) hx hb dX9_make_83 (by decide) ?_
      refine lv_iload_n hx hb dX9_make_62 rfl (lv_at hl 0 rfl) ?_
      refine lv_bipush (v := 31) hx hb dX9_make_63 (by decide) ?_
      refine lv_icmp_ge (tgt := 86) hx hb dX9_make_65 (by decide) (fun c_27 => absurd c_27 (by decide)) (fun c_27 => ?_)
      refine lv_aload_n hx hb dX9_make_68 rfl (lv_at hl 1 rfl) ?_
      refine va_get (D := (dC, dI)) (ci := 11) (v := .ref a8) (C := RX9) (T := TX9) (N := 60) hx hb hts iRX9 hown hK hP 0 rfl rfl 8 (by decide) (hts (.fieldLink RX9 36 "RecordBenchModel" "isThere" "[Z") (by decide +kernel)) (fun _ h9 => h9) fs_10h8 dX9_make_69 ?_
      refine lv_bipush (v := 31) hx hb dX9_make_72 (by decide) ?_
      refine lv_iload_n hx hb dX9_make_74 rfl (lv_at hl 2 rfl) ?_
      refine lv_imul hx hb dX9_make_75 ?_
      refine lv_topi (fun z_28 ez_28 => ?_)
      refine lv_iload_n hx hb dX9_make_76 rfl (lv_at hl 0 rfl) ?_
      refine lv_iadd hx hb dX9_make_77 ?_
      refine lv_topi (fun z_29 ez_29 => ?_)
      refine lv_iconst (v := 0) hx hb dX9_make_78 (by decide) ?_
      refine va_zast hx hb hK hP hD hS 2 1 rfl rfl (by rw [ez_29, ez_28]; exact in_mn (in_of 8 rfl (by decide) c_1 c_2) 4 (by decide)) dX9_make_79 (fun H locs hP hD hS => ?_)
      obtain ⟨f_30, ef_30⟩ : ∃ y : Nat → Int32, y = upd f_26 (z_29 : Int32).toNatClampNeg (vp_nar .boolean 0) := ⟨_, rfl⟩
      have hP : va_P (dC, dI) vwCl [(h0, .inr (11, fs_10)), (a0, .inl (cZ, 8, .inl (fun _ => 0))), (a8, .inl (c8, 248, .inl f_30))] H := by rw [ef_30]; exact hP
      have hD : va_D A [(h0, .inr (11, fs_10)), (a0, .inl (cZ, 8, .inl (fun _ => 0))), (a8, .inl (c8, 248, .inl f_30))] := by rw [ef_30]; exact hD
      refine lv_iinc (v := 5) (lv' := [(2, .int 5), (0, .ref h0), (1, .int p0)]) hx hb dX9_make_80 hl (k := 0) rfl (by decide) (by decide) rfl (fun ls hl => ?_)
      refine lv_goto (tgt := 62) hx hb dX9_make_83 (by decide) ?_
      refine lv_iload_n hx hb dX9_make_62 rfl (lv_at hl 0 rfl) ?_
      refine lv_bipush (v := 31) hx hb dX9_make_63 (by decide) ?_
      refine lv_icmp_ge (tgt := 86) hx hb dX9_make_65 (by decide) (fun c_31 => absurd c_31 (by decide)) (fun c_31 => ?_)
      refine lv_aload_n hx hb dX9_make_68 rfl (lv_at hl 1 rfl) ?_
      refine va_get (D := (dC, dI)) (ci := 11) (v := .ref a8) (C := RX9) (T := TX9) (N := 60) hx hb hts iRX9 hown hK hP 0 rfl rfl 8 (by decide) (hts (.fieldLink RX9 36 "RecordBenchModel" "isThere" "[Z") (by decide +kernel)) (fun _ h9 => h9) fs_10h8 dX9_make_69 ?_
      refine lv_bipush (v := 31) hx hb dX9_make_72 (by decide) ?_
      refine lv_iload_n hx hb dX9_make_74 rfl (lv_at hl 2 rfl) ?_
      refine lv_imul hx hb dX9_make_75 ?_
      refine lv_topi (fun z_32 ez_32 => ?_)
      refine lv_iload_n hx hb dX9_make_76 rfl (lv_at hl 0 rfl) ?_
      refine lv_iadd hx hb dX9_make_77 ?_
      refine lv_topi (fun z_33 ez_33 => ?_)
      refine lv_iconst (v := 0) hx hb dX9_make_78 (by decide) ?_
      refine va_zast hx hb hK hP hD hS 2 1 rfl rfl (by rw [ez_33, ez_32]; exact in_mn (in_of 8 rfl (by decide) c_1 c_2) 5 (by decide)) dX9_make_79 (fun H locs hP hD hS => ?_)
      obtain ⟨f_34, ef_34⟩ : ∃ y : Nat → Int32, y = upd f_30 (z_33 : Int32).toNatClampNeg (vp_nar .boolean 0) := ⟨_, rfl⟩
      have hP : va_P (dC, dI) vwCl [(h0, .inr (11, fs_10)), (a0, .inl (cZ, 8, .inl (fun _ => 0))), (a8, .inl (c8, 248, .inl f_34))] H := by rw [ef_34]; exact hP
      have hD : va_D A [(h0, .inr (11, fs_10)), (a0, .inl (cZ, 8, .inl (fun _ => 0))), (a8, .inl (c8, 248, .inl f_34))] := by rw [ef_34]; exact hD
      refine lv_iinc (v := 6) (lv' := [(2, .int 6), (0, .ref h0), (1, .int p0)]) hx hb dX9_make_80 hl (k := 0) rfl (by decide) (by decide) rfl (fun ls hl => ?_)
      refine lv_goto (tgt := 62) hx hb dX9_make_83 (by decide) ?_
      refine lv_iload_n hx hb dX9_make_62 rfl (lv_at hl 0 rfl) ?_
      refine lv_bipush (v := 31) hx hb dX9_make_63 (by decide) ?_
      refine lv_icmp_ge (tgt := 86) hx hb dX9_make_65 (by decide) (fun c_35 => absurd c_35 (by decide)) (fun c_35 => ?_)
      refine lv_aload_n hx hb dX9_make_68 rfl (lv_at hl 1 rfl) ?_
      refine va_get (D := (dC, dI)) (ci := 11) (v := .ref a8) (C := RX9) (T := TX9) (N := 60) hx hb hts iRX9 hown hK hP 0 rfl rfl 8 (by decide) (hts (.fieldLink RX9 36 "RecordBenchModel" "isThere" "[Z") (by decide +kernel)) (fun _ h9 => h9) fs_10h8 dX9_make_69 ?_
      refine lv_bipush (v := 31) hx hb dX9_make_72 (by decide) ?_
      refine lv_iload_n hx hb dX9_make_74 rfl (lv_at hl 2 rfl) ?_
      refine lv_imul hx hb dX9_make_75 ?_
      refine lv_topi (fun z_36 ez_36 => ?_)
      refine lv_iload_n hx hb dX9_make_76 rfl (lv_at hl 0 rfl) ?_
      refine lv_iadd hx hb dX9_make_77 ?_
      refine lv_topi (fun z_37 ez_37 => ?_)
      refine lv_iconst (v := 0) hx hb dX9_make_78 (by decide) ?_
      refine va_zast hx hb hK hP hD hS 2 1 rfl rfl (by rw [ez_37, ez_36]; exact in_mn (in_of 8 rfl (by decide) c_1 c_2) 6 (by decide)) dX9_make_79 (fun H locs hP hD hS => ?_)
      obtain ⟨f_38, ef_38⟩ : ∃ y : Nat → Int32, y = upd f_34 (z_37 : Int32).toNatClampNeg (vp_nar .boolean 0) := ⟨_, rfl⟩
      have hP : va_P (dC, dI) vwCl [(h0, .inr (11, fs_10)), (a0, .inl (cZ, 8, .inl (fun _ => 0))), (a8, .inl (c8, 248, .inl f_38))] H := by rw [ef_38]; exact hP
      have hD : va_D A [(h0, .inr (11, fs_10)), (a0, .inl (cZ, 8, .inl (fun _ => 0))), (a8, .inl (c8, 248, .inl f_38))] := by rw [ef_38]; exact hD
      refine lv_iinc (v := 7) (lv' := [(2, .int 7), (0, .ref h0), (1, .int p0)]) hx hb dX9_make_80 hl (k := 0) rfl (by decide) (by decide) rfl (fun ls hl => ?_)
      refine lv_goto (tgt := 62) hx hb dX9_make_83 (by decide) ?_
      refine lv_iload_n hx hb dX9_make_62 rfl (lv_at hl 0 rfl) ?_
      refine lv_bipush (v := 31) hx hb dX9_make_63 (by decide) ?_
      refine lv_icmp_ge (tgt := 86) hx hb dX9_make_65 (by decide) (fun c_39 => absurd c_39 (by decide)) (fun c_39 => ?_)
      refine lv_aload_n hx hb dX9_make_68 rfl (lv_at hl 1 rfl) ?_
      refine va_get (D := (dC, dI)) (ci := 11) (v := .ref a8) (C := RX9) (T := TX9) (N := 60) hx hb hts iRX9 hown hK hP 0 rfl rfl 8 (by decide) (hts (.fieldLink RX9 36 "RecordBenchModel" "isThere" "[Z") (by decide +kernel)) (fun _ h9 => h9) fs_10h8 dX9_make_69 ?_
      refine lv_bipush (v := 31) hx hb dX9_make_72 (by decide) ?_
      refine lv_iload_n hx hb dX9_make_74 rfl (lv_at hl 2 rfl) ?_
      refine lv_imul hx hb dX9_make_75 ?_
      refine lv_topi (fun z_40 ez_40 => ?_)
      refine lv_iload_n hx hb dX9_make_76 rfl (lv_at hl 0 rfl) ?_
      refine lv_iadd hx hb dX9_make_77 ?_
      refine lv_topi (fun z_41 ez_41 => ?_)
      refine lv_iconst (v := 0) hx hb dX9_make_78 (by decide) ?_
      refine va_zast hx hb hK hP hD hS 2 1 rfl rfl (by rw [ez_41, ez_40]; exact in_mn (in_of 8 rfl (by decide) c_1 c_2) 7 (by decide)) dX9_make_79 (fun H locs hP hD hS => ?_)
      obtain ⟨f_42, ef_42⟩ : ∃ y : Nat → Int32, y = upd f_38 (z_41 : Int32).toNatClampNeg (vp_nar .boolean 0) := ⟨_, rfl⟩
      have hP : va_P (dC, dI) vwCl [(h0, .inr (11, fs_10)), (a0, .inl (cZ, 8, .inl (fun _ => 0))), (a8, .inl (c8, 248, .inl f_42))] H := by rw [ef_42]; exact hP
      have hD : va_D A [(h0, .inr (11, fs_10)), (a0, .inl (cZ, 8, .inl (fun _ => 0))), (a8, .inl (c8, 248, .inl f_42))] := by rw [ef_42]; exact hD
      refine lv_iinc (v := 8) (lv' := [(2, .int 8), (0, .ref h0), (1, .int p0)]) hx hb dX9_make_80 hl (k := 0) rfl (by decide) (by decide) rfl (fun ls hl => ?_)
      refine lv_goto (tgt := 62) hx hb dX9_make_83 (by decide) ?_
      refine lv_iload_n hx hb dX9_make_62 rfl (lv_at hl 0 rfl) ?_
      refine lv_bipush (v := 31) hx hb dX9_make_63 (by decide) ?_
      refine lv_icmp_ge (tgt := 86) hx hb dX9_make_65 (by decide) (fun c_43 => absurd c_43 (by decide)) (fun c_43 => ?_)
      refine lv_aload_n hx hb dX9_make_68 rfl (lv_at hl 1 rfl) ?_
      refine va_get (D := (dC, dI)) (ci := 11) (v := .ref a8) (C := RX9) (T := TX9) (N := 60) hx hb hts iRX9 hown hK hP 0 rfl rfl 8 (by decide) (hts (.fieldLink RX9 36 "RecordBenchModel" "isThere" "[Z") (by decide +kernel)) (fun _ h9 => h9) fs_10h8 dX9_make_69 ?_
      refine lv_bipush (v := 31) hx hb dX9_make_72 (by decide) ?_
      refine lv_iload_n hx hb dX9_make_74 rfl (lv_at hl 2 rfl) ?_
      refine lv_imul hx hb dX9_make_75 ?_
      refine lv_topi (fun z_44 ez_44 => ?_)
      refine lv_iload_n hx hb dX9_make_76 rfl (lv_at hl 0 rfl) ?_
      refine lv_iadd hx hb dX9_make_77 ?_
      refine lv_topi (fun z_45 ez_45 => ?_)
      refine lv_iconst (v := 0) hx hb dX9_make_78 (by decide) ?_
      refine va_zast hx hb hK hP hD hS 2 1 rfl rfl (by rw [ez_45, ez_44]; exact in_mn (in_of 8 rfl (by decide) c_1 c_2) 8 (by decide)) dX9_make_79 (fun H locs hP hD hS => ?_)
      obtain ⟨f_46, ef_46⟩ : ∃ y : Nat → Int32, y = upd f_42 (z_45 : Int32).toNatClampNeg (vp_nar .boolean 0) := ⟨_, rfl⟩
      have hP : va_P (dC, dI) vwCl [(h0, .inr (11, fs_10)), (a0, .inl (cZ, 8, .inl (fun _ => 0))), (a8, .inl (c8, 248, .inl f_46))] H := by rw [ef_46]; exact hP
      have hD : va_D A [(h0, .inr (11, fs_10)), (a0, .inl (cZ, 8, .inl (fun _ => 0))), (a8, .inl (c8, 248, .inl f_46))] := by rw [ef_46]; exact hD
      refine lv_iinc (v := 9) (lv' := [(2, .int 9), (0, .ref h0), (1, .int p0)]) hx hb dX9_make_80 hl (k := 0) rfl (by decide) (by decide) rfl (fun ls hl => ?_)
      refine lv_goto (tgt := 62) hx hb dX9_make_83 (by decide) ?_
      refine lv_iload_n hx hb dX9_make_62 rfl (lv_at hl 0 rfl) ?_
      refine lv_bipush (v := 31) hx hb dX9_make_63 (by decide) ?_
      refine lv_icmp_ge (tgt := 86) hx hb dX9_make_65 (by decide) (fun c_47 => absurd c_47 (by decide)) (fun c_47 => ?_)
      refine lv_aload_n hx hb dX9_make_68 rfl (lv_at hl 1 rfl) ?_
      refine va_get (D := (dC, dI)) (ci := 11) (v := .ref a8) (C := RX9) (T := TX9) (N := 60) hx hb hts iRX9 hown hK hP 0 rfl rfl 8 (by decide) (hts (.fieldLink RX9 36 "RecordBenchModel" "isThere" "[Z") (by decide +kernel)) (fun _ h9 => h9) fs_10h8 dX9_make_69 ?_
      refine lv_bipush (v := 31) hx hb dX9_make_72 (by decide) ?_
      refine lv_iload_n hx hb dX9_make_74 rfl (lv_at hl 2 rfl) ?_
      refine lv_imul hx hb dX9_make_75 ?_
      refine lv_topi (fun z_48 ez_48 => ?_)
      refine lv_iload_n hx hb dX9_make_76 rfl (lv_at hl 0 rfl) ?_
      refine lv_iadd hx hb dX9_make_77 ?_
      refine lv_topi (fun z_49 ez_49 => ?_)
      refine lv_iconst (v := 0) hx hb dX9_make_78 (by decide) ?_
      refine va_zast hx hb hK hP hD hS 2 1 rfl rfl (by rw [ez_49, ez_48]; exact in_mn (in_of 8 rfl (by decide) c_1 c_2) 9 (by decide)) dX9_make_79 (fun H locs hP hD hS => ?_)
      obtain ⟨f_50, ef_50⟩ : ∃ y : Nat → Int32, y = upd f_46 (z_49 : Int32).toNatClampNeg (vp_nar .boolean 0) := ⟨_, rfl⟩
      have hP : va_P (dC, dI) vwCl [(h0, .inr (11, fs_10)), (a0, .inl (cZ, 8, .inl (fun _ => 0))), (a8, .inl (c8, 248, .inl f_50))] H := by rw [ef_50]; exact hP
      have hD : va_D A [(h0, .inr (11, fs_10)), (a0, .inl (cZ, 8, .inl (fun _ => 0))), (a8, .inl (c8, 248, .inl f_50))] := by rw [ef_50]; exact hD
      refine lv_iinc (v := 10) (lv' := [(2, .int 10), (0, .ref h0), (1, .int p0)]) hx hb dX9_make_80 hl (k := 0) rfl (by decide) (by decide) rfl (fun ls hl => ?_)
      refine lv_goto (tgt := 62) hx hb dX9_make_83 (by decide) ?_
      refine lv_iload_n hx hb dX9_make_62 rfl (lv_at hl 0 rfl) ?_
      refine lv_bipush (v := 31) hx hb dX9_make_63 (by decide) ?_
      refine lv_icmp_ge (tgt := 86) hx hb dX9_make_65 (by decide) (fun c_51 => absurd c_51 (by decide)) (fun c_51 => ?_)
      refine lv_aload_n hx hb dX9_make_68 rfl (lv_at hl 1 rfl) ?_
      refine va_get (D := (dC, dI)) (ci := 11) (v := .ref a8) (C := RX9) (T := TX9) (N := 60) hx hb hts iRX9 hown hK hP 0 rfl rfl 8 (by decide) (hts (.fieldLink RX9 36 "RecordBenchModel" "isThere" "[Z") (by decide +kernel)) (fun _ h9 => h9) fs_10h8 dX9_make_69 ?_
      refine lv_bipush (v := 31) hx hb dX9_make_72 (by decide) ?_
      refine lv_iload_n hx hb dX9_make_74 rfl (lv_at hl 2 rfl) ?_
      refine lv_imul hx hb dX9_make_75 ?_
      refine lv_topi (fun z_52 ez_52 => ?_)
      refine lv_iload_n hx hb dX9_make_76 rfl (lv_at hl 0 rfl) ?_
      refine lv_iadd hx hb dX9_make_77 ?_
      refine lv_topi (fun z_53 ez_53 => ?_)
      refine lv_iconst (v := 0) hx hb dX9_make_78 (by decide) ?_
      refine va_zast hx hb hK hP hD hS 2 1 rfl rfl (by rw [ez_53, ez_52]; exact in_mn (in_of 8 rfl (by decide) c_1 c_2) 10 (by decide)) dX9_make_79 (fun H locs hP hD hS => ?_)
      obtain ⟨f_54, ef_54⟩ : ∃ y : Nat → Int32, y = upd f_50 (z_53 : Int32).toNatClampNeg (vp_nar .boolean 0) := ⟨_, rfl⟩
      have hP : va_P (dC, dI) vwCl [(h0, .inr (11, fs_10)), (a0, .inl (cZ, 8, .inl (fun _ => 0))), (a8, .inl (c8, 248, .inl f_54))] H := by rw [ef_54]; exact hP
      have hD : va_D A [(h0, .inr (11, fs_10)), (a0, .inl (cZ, 8, .inl (fun _ => 0))), (a8, .inl (c8, 248, .inl f_54))] := by rw [ef_54]; exact hD
      refine lv_iinc (v := 11) (lv' := [(2, .int 11), (0, .ref h0), (1, .int p0)]) hx hb dX9_make_80 hl (k := 0) rfl (by decide) (by decide) rfl (fun ls hl => ?_)
      refine lv_goto (tgt := 62) hx hb dX9_make_83 (by decide) ?_
      refine lv_iload_n hx hb dX9_make_62 rfl (lv_at hl 0 rfl) ?_
      refine lv_bipush (v := 31) hx hb dX9_make_63 (by decide) ?_
      refine lv_icmp_ge (tgt := 86) hx hb dX9_make_65 (by decide) (fun c_55 => absurd c_55 (by decide)) (fun c_55 => ?_)
      refine lv_aload_n hx hb dX9_make_68 rfl (lv_at hl 1 rfl) ?_
      refine va_get (D := (dC, dI)) (ci := 11) (v := .ref a8) (C := RX9) (T := TX9) (N := 60) hx hb hts iRX9 hown hK hP 0 rfl rfl 8 (by decide) (hts (.fieldLink RX9 36 "RecordBenchModel" "isThere" "[Z") (by decide +kernel)) (fun _ h9 => h9) fs_10h8 dX9_make_69 ?_
      refine lv_bipush (v := 31) hx hb dX9_make_72 (by decide) ?_
      refine lv_iload_n hx hb dX9_make_74 rfl (lv_at hl 2 rfl) ?_
      refine lv_imul hx hb dX9_make_75 ?_
      refine lv_topi (fun z_56 ez_56 => ?_)
      refine lv_iload_n hx hb dX9_make_76 rfl (lv_at hl 0 rfl) ?_
      refine lv_iadd hx hb dX9_make_77 ?_
      refine lv_topi (fun z_57 ez_57 => ?_)
      refine lv_iconst (v := 0) hx hb dX9_make_78 (by decide) ?_
      refine va_zast hx hb hK hP hD hS 2 1 rfl rfl (by rw [ez_57, ez_56]; exact in_mn (in_of 8 rfl (by decide) c_1 c_2) 11 (by decide)) dX9_make_79 (fun H locs hP hD hS => ?_)
      obtain ⟨f_58, ef_58⟩ : ∃ y : Nat → Int32, y = upd f_54 (z_57 : Int32).toNatClampNeg (vp_nar .boolean 0) := ⟨_, rfl⟩
      have hP : va_P (dC, dI) vwCl [(h0, .inr (11, fs_10)), (a0, .inl (cZ, 8, .inl (fun _ => 0))), (a8, .inl (c8, 248, .inl f_58))] H := by rw [ef_58]; exact hP
      have hD : va_D A [(h0, .inr (11, fs_10)), (a0, .inl (cZ, 8, .inl (fun _ => 0))), (a8, .inl (c8, 248, .inl f_58))] := by rw [ef_58]; exact hD
      refine lv_iinc (v := 12) (lv' := [(2, .int 12), (0, .ref h0), (1, .int p0)]) hx hb dX9_make_80 hl (k := 0) rfl (by decide) (by decide) rfl (fun ls hl => ?_)
      refine lv_goto (tgt := 62) hx hb dX9_make_83 (by decide) ?_
      refine lv_iload_n hx hb dX9_make_62 rfl (lv_at hl 0 rfl) ?_
      refine lv_bipush (v := 31) hx hb dX9_make_63 (by decide) ?_
      refine lv_icmp_ge (tgt := 86) hx hb dX9_make_65 (by decide) (fun c_59 => absurd c_59 (by decide)) (fun c_59 => ?_)
      refine lv_aload_n hx hb dX9_make_68 rfl (lv_at hl 1 rfl) ?_
      refine va_get (D := (dC, dI)) (ci := 11) (v := .ref a8) (C := RX9) (T := TX9) (N := 60) hx hb hts iRX9 hown hK hP 0 rfl rfl 8 (by decide) (hts (.fieldLink RX9 36 "RecordBenchModel" "isThere" "[Z") (by decide +kernel)) (fun _ h9 => h9) fs_10h8 dX9_make_69 ?_
      refine lv_bipush (v := 31) hx hb dX9_make_72 (by decide) ?_
      refine lv_iload_n hx hb dX9_make_74 rfl (lv_at hl 2 rfl) ?_
      refine lv_imul hx hb dX9_make_75 ?_
      refine lv_topi (fun z_60 ez_60 => ?_)
      refine lv_iload_n hx hb dX9_make_76 rfl (lv_at hl 0 rfl) ?_
      refine lv_iadd hx hb dX9_make_77 ?_
      refine lv_topi (fun z_61 ez_61 => ?_)
      refine lv_iconst (v := 0) hx hb dX9_make_78 (by decide) ?_
      refine va_zast hx hb hK hP hD hS 2 1 rfl rfl (by rw [ez_61, ez_60]; exact in_mn (in_of 8 rfl (by decide) c_1 c_2) 12 (by decide)) dX9_make_79 (fun H locs hP hD hS => ?_)
      obtain ⟨f_62, ef_62⟩ : ∃ y : Nat → Int32, y = upd f_58 (z_61 : Int32).toNatClampNeg (vp_nar .boolean 0) := ⟨_, rfl⟩
      have hP : va_P (dC, dI) vwCl [(h0, .inr (11, fs_10)), (a0, .inl (cZ, 8, .inl (fun _ => 0))), (a8, .inl (c8, 248, .inl f_62))] H := by rw [ef_62]; exact hP
      have hD : va_D A [(h0, .inr (11, fs_10)), (a0, .inl (cZ, 8, .inl (fun _ => 0))), (a8, .inl (c8, 248, .inl f_62))] := by rw [ef_62]; exact hD
      refine lv_iinc (v := 13) (lv' := [(2, .int 13), (0, .ref h0), (1, .int p0)]) hx hb dX9_make_80 hl (k := 0) rfl (by decide) (by decide) rfl (fun ls hl => ?_)
      refine lv_goto (tgt := 62) hx hb dX9_make_83 (by decide) ?_
      refine lv_iload_n hx hb dX9_make_62 rfl (lv_at hl 0 rfl) ?_
      refine lv_bipush (v := 31) hx hb dX9_make_63 (by decide) ?_
      refine lv_icmp_ge (tgt := 86) hx hb dX9_make_65 (by decide) (fun c_63 => absurd c_63 (by decide)) (fun c_63 => ?_)
      refine lv_aload_n hx hb dX9_make_68 rfl (lv_at hl 1 rfl) ?_
      refine va_get (D := (dC, dI)) (ci := 11) (v := .ref a8) (C := RX9) (T := TX9) (N := 60) hx hb hts iRX9 hown hK hP 0 rfl rfl 8 (by decide) (hts (.fieldLink RX9 36 "RecordBenchModel" "isThere" "[Z") (by decide +kernel)) (fun _ h9 => h9) fs_10h8 dX9_make_69 ?_
      refine lv_bipush (v := 31) hx hb dX9_make_72 (by decide) ?_
      refine lv_iload_n hx hb dX9_make_74 rfl (lv_at hl 2 rfl) ?_
      refine lv_imul hx hb dX9_make_75 ?_
      refine lv_topi (fun z_64 ez_64 => ?_)
      refine lv_iload_n hx hb dX9_make_76 rfl (lv_at hl 0 rfl) ?_
      refine lv_iadd hx hb dX9_make_77 ?_
      refine lv_topi (fun z_65 ez_65 => ?_)
      refine lv_iconst (v := 0) hx hb dX9_make_78 (by decide) ?_
      refine va_zast hx hb hK hP hD hS 2 1 rfl rfl (by rw [ez_65, ez_64]; exact in_mn (in_of 8 rfl (by decide) c_1 c_2) 13 (by decide)) dX9_make_79 (fun H locs hP hD hS => ?_)
      obtain ⟨f_66, ef_66⟩ : ∃ y : Nat → Int32, y = upd f_62 (z_65 : Int32).toNatClampNeg (vp_nar .boolean 0) := ⟨_, rfl⟩
      have hP : va_P (dC, dI) vwCl [(h0, .inr (11, fs_10)), (a0, .inl (cZ, 8, .inl (fun _ => 0))), (a8, .inl (c8, 248, .inl f_66))] H := by rw [ef_66]; exact hP
      have hD : va_D A [(h0, .inr (11, fs_10)), (a0, .inl (cZ, 8, .inl (fun _ => 0))), (a8, .inl (c8, 248, .inl f_66))] := by rw [ef_66]; exact hD
      refine lv_iinc (v := 14) (lv' := [(2, .int 14), (0, .ref h0), (1, .int p0)]) hx hb dX9_make_80 hl (k := 0) rfl (by decide) (by decide) rfl (fun ls hl => ?_)
      refine lv_goto (tgt := 62) hx hb dX9_make_83 (by decide) ?_
      refine lv_iload_n hx hb dX9_make_62 rfl (lv_at hl 0 rfl) ?_
      refine lv_bipush (v := 31) hx hb dX9_make_63 (by decide) ?_
      refine lv_icmp_ge (tgt := 86) hx hb dX9_make_65 (by decide) (fun c_67 => absurd c_67 (by decide)) (fun c_67 => ?_)
      refine lv_aload_n hx hb dX9_make_68 rfl (lv_at hl 1 rfl) ?_
      refine va_get (D := (dC, dI)) (ci := 11) (v := .ref a8) (C := RX9) (T := TX9) (N := 60) hx hb hts iRX9 hown hK hP 0 rfl rfl 8 (by decide) (hts (.fieldLink RX9 36 "RecordBenchModel" "isThere" "[Z") (by decide +kernel)) (fun _ h9 => h9) fs_10h8 dX9_make_69 ?_
      refine lv_bipush (v := 31) hx hb dX9_make_72 (by decide) ?_
      refine lv_iload_n hx hb dX9_make_74 rfl (lv_at hl 2 rfl) ?_
      refine lv_imul hx hb dX9_make_75 ?_
      refine lv_topi (fun z_68 ez_68 => ?_)
      refine lv_iload_n hx hb dX9_make_76 rfl (lv_at hl 0 rfl) ?_
      refine lv_iadd hx hb dX9_make_77 ?_
      refine lv_topi (fun z_69 ez_69 => ?_)
      refine lv_iconst (v := 0) hx hb dX9_make_78 (by decide) ?_
      refine va_zast hx hb hK hP hD hS 2 1 rfl rfl (by rw [ez_69, ez_68]; exact in_mn (in_of 8 rfl (by decide) c_1 c_2) 14 (by decide)) dX9_make_79 (fun H locs hP hD hS => ?_)
      obtain ⟨f_70, ef_70⟩ : ∃ y : Nat → Int32, y = upd f_66 (z_69 : Int32).toNatClampNeg (vp_nar .boolean 0) := ⟨_, rfl⟩
      have hP : va_P (dC, dI) vwCl [(h0, .inr (11, fs_10)), (a0, .inl (cZ, 8, .inl (fun _ => 0))), (a8, .inl (c8, 248, .inl f_70))] H := by rw [ef_70]; exact hP
      have hD : va_D A [(h0, .inr (11, fs_10)), (a0, .inl (cZ, 8, .inl (fun _ => 0))), (a8, .inl (c8, 248, .inl f_70))] := by rw [ef_70]; exact hD
      refine lv_iinc (v := 15) (lv' := [(2, .int 15), (0, .ref h0), (1, .int p0)]) hx hb dX9_make_80 hl (k := 0) rfl (by decide) (by decide) rfl (fun ls hl => ?_)
      refine lv_goto (tgt := 62) hx hb dX9_make_83 (by decide) ?_
      refine lv_iload_n hx hb dX9_make_62 rfl (lv_at hl 0 rfl) ?_
      refine lv_bipush (v := 31) hx hb dX9_make_63 (by decide) ?_
      refine lv_icmp_ge (tgt := 86) hx hb dX9_make_65 (by decide) (fun c_71 => absurd c_71 (by decide)) (fun c_71 => ?_)
      refine lv_aload_n hx hb dX9_make_68 rfl (lv_at hl 1 rfl) ?_
      refine va_get (D := (dC, dI)) (ci := 11) (v := .ref a8) (C := RX9) (T := TX9) (N := 60) hx hb hts iRX9 hown hK hP 0 rfl rfl 8 (by decide) (hts (.fieldLink RX9 36 "RecordBenchModel" "isThere" "[Z") (by decide +kernel)) (fun _ h9 => h9) fs_10h8 dX9_make_69 ?_
      refine lv_bipush (v := 31) hx hb dX9_make_72 (by decide) ?_
      refine lv_iload_n hx hb dX9_make_74 rfl (lv_at hl 2 rfl) ?_
      refine lv_imul hx hb dX9_make_75 ?_
      refine lv_topi (fun z_72 ez_72 => ?_)
      refine lv_iload_n hx hb dX9_make_76 rfl (lv_at hl 0 rfl) ?_
      refine lv_iadd hx hb dX9_make_77 ?_
      refine lv_topi (fun z_73 ez_73 => ?_)
      refine lv_iconst (v := 0) hx hb dX9_make_78 (by decide) ?_
      refine va_zast hx hb hK hP hD hS 2 1 rfl rfl (by rw [ez_73, ez_72]; exact in_mn (in_of 8 rfl (by decide) c_1 c_2) 15 (by decide)) dX9_make_79 (fun H locs hP hD hS => ?_)
      obtain ⟨f_74, ef_74⟩ : ∃ y : Nat → Int32, y = upd f_70 (z_73 : Int32).toNatClampNeg (vp_nar .boolean 0) := ⟨_, rfl⟩
      have hP : va_P (dC, dI) vwCl [(h0, .inr (11, fs_10)), (a0, .inl (cZ, 8, .inl (fun _ => 0))), (a8, .inl (c8, 248, .inl f_74))] H := by rw [ef_74]; exact hP
      have hD : va_D A [(h0, .inr (11, fs_10)), (a0, .inl (cZ, 8, .inl (fun _ => 0))), (a8, .inl (c8, 248, .inl f_74))] := by rw [ef_74]; exact hD
      refine lv_iinc (v := 16) (lv' := [(2, .int 16), (0, .ref h0), (1, .int p0)]) hx hb dX9_make_80 hl (k := 0) rfl (by decide) (by decide) rfl (fun ls hl => ?_)
      refine lv_goto (tgt := 62) hx hb dX9_make_83 (by decide) ?_
      refine lv_iload_n hx hb dX9_make_62 rfl (lv_at hl 0 rfl) ?_
      refine lv_bipush (v := 31) hx hb dX9_make_63 (by decide) ?_
      refine lv_icmp_ge (tgt := 86) hx hb dX9_make_65 (by decide) (fun c_75 => absurd c_75 (by decide)) (fun c_75 => ?_)
      refine lv_aload_n hx hb dX9_make_68 rfl (lv_at hl 1 rfl) ?_
      refine va_get (D := (dC, dI)) (ci := 11) (v := .ref a8) (C := RX9) (T := TX9) (N := 60) hx hb hts iRX9 hown hK hP 0 rfl rfl 8 (by decide) (hts (.fieldLink RX9 36 "RecordBenchModel" "isThere" "[Z") (by decide +kernel)) (fun _ h9 => h9) fs_10h8 dX9_make_69 ?_
      refine lv_bipush (v := 31) hx hb dX9_make_72 (by decide) ?_
      refine lv_iload_n hx hb dX9_make_74 rfl (lv_at hl 2 rfl) ?_
      refine lv_imul hx hb dX9_make_75 ?_
      refine lv_topi (fun z_76 ez_76 => ?_)
      refine lv_iload_n hx hb dX9_make_76 rfl (lv_at hl 0 rfl) ?_
      refine lv_iadd hx hb dX9_make_77 ?_
      refine lv_topi (fun z_77 ez_77 => ?_)
      refine lv_iconst (v := 0) hx hb dX9_make_78 (by decide) ?_
      refine va_zast hx hb hK hP hD hS 2 1 rfl rfl (by rw [ez_77, ez_76]; exact in_mn (in_of 8 rfl (by decide) c_1 c_2) 16 (by decide)) dX9_make_79 (fun H locs hP hD hS => ?_)
      obtain ⟨f_78, ef_78⟩ : ∃ y : Nat → Int32, y = upd f_74 (z_77 : Int32).toNatClampNeg (vp_nar .boolean 0) := ⟨_, rfl⟩
      have hP : va_P (dC, dI) vwCl [(h0, .inr (11, fs_10)), (a0, .inl (cZ, 8, .inl (fun _ => 0))), (a8, .inl (c8, 248, .inl f_78))] H := by rw [ef_78]; exact hP
      have hD : va_D A [(h0, .inr (11, fs_10)), (a0, .inl (cZ, 8, .inl (fun _ => 0))), (a8, .inl (c8, 248, .inl f_78))] := by rw [ef_78]; exact hD
      refine lv_iinc (v := 17) (lv' := [(2, .int 17), (0, .ref h0), (1, .int p0)]) hx hb dX9_make_80 hl (k := 0) rfl (by decide) (by decide) rfl (fun ls hl => ?_)
      refine lv_goto (tgt := 62) hx hb dX9_make_83 (by decide) ?_
      refine lv_iload_n hx hb dX9_make_62 rfl (lv_at hl 0 rfl) ?_
      refine lv_bipush (v := 31) hx hb dX9_make_63 (by decide) ?_
      refine lv_icmp_ge (tgt := 86) hx hb dX9_make_65 (by decide) (fun c_79 => absurd c_79 (by decide)) (fun c_79 => ?_)
      refine lv_aload_n hx hb dX9_make_68 rfl (lv_at hl 1 rfl) ?_
      refine va_get (D := (dC, dI)) (ci := 11) (v := .ref a8) (C := RX9) (T := TX9) (N := 60) hx hb hts iRX9 hown hK hP 0 rfl rfl 8 (by decide) (hts (.fieldLink RX9 36 "RecordBenchModel" "isThere" "[Z") (by decide +kernel)) (fun _ h9 => h9) fs_10h8 dX9_make_69 ?_
      refine lv_bipush (v := 31) hx hb dX9_make_72 (by decide) ?_
      refine lv_iload_n hx hb dX9_make_74 rfl (lv_at hl 2 rfl) ?_
      refine lv_imul hx hb dX9_make_75 ?_
      refine lv_topi (fun z_80 ez_80 => ?_)
      refine lv_iload_n hx hb dX9_make_76 rfl (lv_at hl 0 rfl) ?_
      refine lv_iadd hx hb dX9_make_77 ?_
      refine lv_topi (fun z_81 ez_81 => ?_)
      refine lv_iconst (v := 0) hx hb dX9_make_78 (by decide) ?_
      refine va_zast hx hb hK hP hD hS 2 1 rfl rfl (by rw [ez_81, ez_80]; exact in_mn (in_of 8 rfl (by decide) c_1 c_2) 17 (by decide)) dX9_make_79 (fun H locs hP hD hS => ?_)
      obtain ⟨f_82, ef_82⟩ : ∃ y : Nat → Int32, y = upd f_78 (z_81 : Int32).toNatClampNeg (vp_nar .boolean 0) := ⟨_, rfl⟩
      have hP : va_P (dC, dI) vwCl [(h0, .inr (11, fs_10)), (a0, .inl (cZ, 8, .inl (fun _ => 0))), (a8, .inl (c8, 248, .inl f_82))] H := by rw [ef_82]; exact hP
      have hD : va_D A [(h0, .inr (11, fs_10)), (a0, .inl (cZ, 8, .inl (fun _ => 0))), (a8, .inl (c8, 248, .inl f_82))] := by rw [ef_82]; exact hD
      refine lv_iinc (v := 18) (lv' := [(2, .int 18), (0, .ref h0), (1, .int p0)]) hx hb dX9_make_80 hl (k := 0) rfl (by decide) (by decide) rfl (fun ls hl => ?_)
      refine lv_goto (tgt := 62) hx hb dX9_make_83 (by decide) ?_
      refine lv_iload_n hx hb dX9_make_62 rfl (lv_at hl 0 rfl) ?_
      refine lv_bipush (v := 31) hx hb dX9_make_63 (by decide) ?_
      refine lv_icmp_ge (tgt := 86) hx hb dX9_make_65 (by decide) (fun c_83 => absurd c_83 (by decide)) (fun c_83 => ?_)
      refine lv_aload_n hx hb dX9_make_68 rfl (lv_at hl 1 rfl) ?_
      refine va_get (D := (dC, dI)) (ci := 11) (v := .ref a8) (C := RX9) (T := TX9) (N := 60) hx hb hts iRX9 hown hK hP 0 rfl rfl 8 (by decide) (hts (.fieldLink RX9 36 "RecordBenchModel" "isThere" "[Z") (by decide +kernel)) (fun _ h9 => h9) fs_10h8 dX9_make_69 ?_
      refine lv_bipush (v := 31) hx hb dX9_make_72 (by decide) ?_
      refine lv_iload_n hx hb dX9_make_74 rfl (lv_at hl 2 rfl) ?_
      refine lv_imul hx hb dX9_make_75 ?_
      refine lv_topi (fun z_84 ez_84 => ?_)
      refine lv_iload_n hx hb dX9_make_76 rfl (lv_at hl 0 rfl) ?_
      refine lv_iadd hx hb dX9_make_77 ?_
      refine lv_topi (fun z_85 ez_85 => ?_)
      refine lv_iconst (v := 0) hx hb dX9_make_78 (by decide) ?_
      refine va_zast hx hb hK hP hD hS 2 1 rfl rfl (by rw [ez_85, ez_84]; exact in_mn (in_of 8 rfl (by decide) c_1 c_2) 18 (by decide)) dX9_make_79 (fun H locs hP hD hS => ?_)
      obtain ⟨f_86, ef_86⟩ : ∃ y : Nat → Int32, y = upd f_82 (z_85 : Int32).toNatClampNeg (vp_nar .boolean 0) := ⟨_, rfl⟩
      have hP : va_P (dC, dI) vwCl [(h0, .inr (11, fs_10)), (a0, .inl (cZ, 8, .inl (fun _ => 0))), (a8, .inl (c8, 248, .inl f_86))] H := by rw [ef_86]; exact hP
      have hD : va_D A [(h0, .inr (11, fs_10)), (a0, .inl (cZ, 8, .inl (fun _ => 0))), (a8, .inl (c8, 248, .inl f_86))] := by rw [ef_86]; exact hD
      refine lv_iinc (v := 19) (lv' := [(2, .int 19), (0, .ref h0), (1, .int p0)]) hx hb dX9_make_80 hl (k := 0) rfl (by decide) (by decide) rfl (fun ls hl => ?_)
      refine lv_goto (tgt := 62) hx hb dX9_make_83 (by decide) ?_
      refine lv_iload_n hx hb dX9_make_62 rfl (lv_at hl 0 rfl) ?_
      refine lv_bipush (v := 31) hx hb dX9_make_63 (by decide) ?_
      refine lv_icmp_ge (tgt := 86) hx hb dX9_make_65 (by decide) (fun c_87 => absurd c_87 (by decide)) (fun c_87 => ?_)
      refine lv_aload_n hx hb dX9_make_68 rfl (lv_at hl 1 rfl) ?_
      refine va_get (D := (dC, dI)) (ci := 11) (v := .ref a8) (C := RX9) (T := TX9) (N := 60) hx hb hts iRX9 hown hK hP 0 rfl rfl 8 (by decide) (hts (.fieldLink RX9 36 "RecordBenchModel" "isThere" "[Z") (by decide +kernel)) (fun _ h9 => h9) fs_10h8 dX9_make_69 ?_
      refine lv_bipush (v := 31) hx hb dX9_make_72 (by decide) ?_
      refine lv_iload_n hx hb dX9_make_74 rfl (lv_at hl 2 rfl) ?_
      refine lv_imul hx hb dX9_make_75 ?_
      refine lv_topi (fun z_88 ez_88 => ?_)
      refine lv_iload_n hx hb dX9_make_76 rfl (lv_at hl 0 rfl) ?_
      refine lv_iadd hx hb dX9_make_77 ?_
      refine lv_topi (fun z_89 ez_89 => ?_)
      refine lv_iconst (v := 0) hx hb dX9_make_78 (by decide) ?_
      refine va_zast hx hb hK hP hD hS 2 1 rfl rfl (by rw [ez_89, ez_88]; exact in_mn (in_of 8 rfl (by decide) c_1 c_2) 19 (by decide)) dX9_make_79 (fun H locs hP hD hS => ?_)
      obtain ⟨f_90, ef_90⟩ : ∃ y : Nat → Int32, y = upd f_86 (z_89 : Int32).toNatClampNeg (vp_nar .boolean 0) := ⟨_, rfl⟩
      have hP : va_P (dC, dI) vwCl [(h0, .inr (11, fs_10)), (a0, .inl (cZ, 8, .inl (fun _ => 0))), (a8, .inl (c8, 248, .inl f_90))] H := by rw [ef_90]; exact hP
      have hD : va_D A [(h0, .inr (11, fs_10)), (a0, .inl (cZ, 8, .inl (fun _ => 0))), (a8, .inl (c8, 248, .inl f_90))] := by rw [ef_90]; exact hD
      refine lv_iinc (v := 20) (lv' := [(2, .int 20), (0, .ref h0), (1, .int p0)]) hx hb dX9_make_80 hl (k := 0) rfl (by decide) (by decide) rfl (fun ls hl => ?_)
      refine lv_goto (tgt := 62) hx hb dX9_make_83 (by decide) ?_
      refine lv_iload_n hx hb dX9_make_62 rfl (lv_at hl 0 rfl) ?_
      refine lv_bipush (v := 31) hx hb dX9_make_63 (by decide) ?_
      refine lv_icmp_ge (tgt := 86) hx hb dX9_make_65 (by decide) (fun c_91 => absurd c_91 (by decide)) (fun c_91 => ?_)
      refine lv_aload_n hx hb dX9_make_68 rfl (lv_at hl 1 rfl) ?_
      refine va_get (D := (dC, dI)) (ci := 11) (v := .ref a8) (C := RX9) (T := TX9) (N := 60) hx hb hts iRX9 hown hK hP 0 rfl rfl 8 (by decide) (hts (.fieldLink RX9 36 "RecordBenchModel" "isThere" "[Z") (by decide +kernel)) (fun _ h9 => h9) fs_10h8 dX9_make_69 ?_
      refine lv_bipush (v := 31) hx hb dX9_make_72 (by decide) ?_
      refine lv_iload_n hx hb dX9_make_74 rfl (lv_at hl 2 rfl) ?_
      refine lv_imul hx hb dX9_make_75 ?_
      refine lv_topi (fun z_92 ez_92 => ?_)
      refine lv_iload_n hx hb dX9_make_76 rfl (lv_at hl 0 rfl) ?_
      refine lv_iadd hx hb dX9_make_77 ?_
      refine lv_topi (fun z_93 ez_93 => ?_)
      refine lv_iconst (v := 0) hx hb dX9_make_78 (by decide) ?_
      refine va_zast hx hb hK hP hD hS 2 1 rfl rfl (by rw [ez_93, ez_92]; exact in_mn (in_of 8 rfl (by decide) c_1 c_2) 20 (by decide)) dX9_make_79 (fun H locs hP hD hS => ?_)
      obtain ⟨f_94, ef_94⟩ : ∃ y : Nat → Int32, y = upd f_90 (z_93 : Int32).toNatClampNeg (vp_nar .boolean 0) := ⟨_, rfl⟩
      have hP : va_P (dC, dI) vwCl [(h0, .inr (11, fs_10)), (a0, .inl (cZ, 8, .inl (fun _ => 0))), (a8, .inl (c8, 248, .inl f_94))] H := by rw [ef_94]; exact hP
      have hD : va_D A [(h0, .inr (11, fs_10)), (a0, .inl (cZ, 8, .inl (fun _ => 0))), (a8, .inl (c8, 248, .inl f_94))] := by rw [ef_94]; exact hD
      refine lv_iinc (v := 21) (lv' := [(2, .int 21), (0, .ref h0), (1, .int p0)]) hx hb dX9_make_80 hl (k := 0) rfl (by decide) (by decide) rfl (fun ls hl => ?_)
      refine lv_goto (tgt := 62) hx hb dX9_make_83 (by decide) ?_
      refine lv_iload_n hx hb dX9_make_62 rfl (lv_at hl 0 rfl) ?_
      refine lv_bipush (v := 31) hx hb dX9_make_63 (by decide) ?_
      refine lv_icmp_ge (tgt := 86) hx hb dX9_make_65 (by decide) (fun c_95 => absurd c_95 (by decide)) (fun c_95 => ?_)
      refine lv_aload_n hx hb dX9_make_68 rfl (lv_at hl 1 rfl) ?_
      refine va_get (D := (dC, dI)) (ci := 11) (v := .ref a8) (C := RX9) (T := TX9) (N := 60) hx hb hts iRX9 hown hK hP 0 rfl rfl 8 (by decide) (hts (.fieldLink RX9 36 "RecordBenchModel" "isThere" "[Z") (by decide +kernel)) (fun _ h9 => h9) fs_10h8 dX9_make_69 ?_
      refine lv_bipush (v := 31) hx hb dX9_make_72 (by decide) ?_
      refine lv_iload_n hx hb dX9_make_74 rfl (lv_at hl 2 rfl) ?_
      refine lv_imul hx hb dX9_make_75 ?_
      refine lv_topi (fun z_96 ez_96 => ?_)
      refine lv_iload_n hx hb dX9_make_76 rfl (lv_at hl 0 rfl) ?_
      refine lv_iadd hx hb dX9_make_77 ?_
      refine lv_topi (fun z_97 ez_97 => ?_)
      refine lv_iconst (v := 0) hx hb dX9_make_78 (by decide) ?_
      refine va_zast hx hb hK hP hD hS 2 1 rfl rfl (by rw [ez_97, ez_96]; exact in_mn (in_of 8 rfl (by decide) c_1 c_2) 21 (by decide)) dX9_make_79 (fun H locs hP hD hS => ?_)
      obtain ⟨f_98, ef_98⟩ : ∃ y : Nat → Int32, y = upd f_94 (z_97 : Int32).toNatClampNeg (vp_nar .boolean 0) := ⟨_, rfl⟩
      have hP : va_P (dC, dI) vwCl [(h0, .inr (11, fs_10)), (a0, .inl (cZ, 8, .inl (fun _ => 0))), (a8, .inl (c8, 248, .inl f_98))] H := by rw [ef_98]; exact hP
      have hD : va_D A [(h0, .inr (11, fs_10)), (a0, .inl (cZ, 8, .inl (fun _ => 0))), (a8, .inl (c8, 248, .inl f_98))] := by rw [ef_98]; exact hD
      refine lv_iinc (v := 22) (lv' := [(2, .int 22), (0, .ref h0), (1, .int p0)]) hx hb dX9_make_80 hl (k := 0) rfl (by decide) (by decide) rfl (fun ls hl => ?_)
      refine lv_goto (tgt := 62) hx hb dX9_make_83 (by decide) ?_
      refine lv_iload_n hx hb dX9_make_62 rfl (lv_at hl 0 rfl) ?_
      refine lv_bipush (v := 31) hx hb dX9_make_63 (by decide) ?_
      refine lv_icmp_ge (tgt := 86) hx hb dX9_make_65 (by decide) (fun c_99 => absurd c_99 (by decide)) (fun c_99 => ?_)
      refine lv_aload_n hx hb dX9_make_68 rfl (lv_at hl 1 rfl) ?_
      refine va_get (D := (dC, dI)) (ci := 11) (v := .ref a8) (C := RX9) (T := TX9) (N := 60) hx hb hts iRX9 hown hK hP 0 rfl rfl 8 (by decide) (hts (.fieldLink RX9 36 "RecordBenchModel" "isThere" "[Z") (by decide +kernel)) (fun _ h9 => h9) fs_10h8 dX9_make_69 ?_
      refine lv_bipush (v := 31) hx hb dX9_make_72 (by decide) ?_
      refine lv_iload_n hx hb dX9_make_74 rfl (lv_at hl 2 rfl) ?_
      refine lv_imul hx hb dX9_make_75 ?_
      refine lv_topi (fun z_100 ez_100 => ?_)
      refine lv_iload_n hx hb dX9_make_76 rfl (lv_at hl 0 rfl) ?_
      refine lv_iadd hx hb dX9_make_77 ?_
      refine lv_topi (fun z_101 ez_101 => ?_)
      refine lv_iconst (v := 0) hx hb dX9_make_78 (by decide) ?_
      refine va_zast hx hb hK hP hD hS 2 1 rfl rfl (by rw [ez_101, ez_100]; exact in_mn (in_of 8 rfl (by decide) c_1 c_2) 22 (by decide)) dX9_make_79 (fun H locs hP hD hS => ?_)
      obtain ⟨f_102, ef_102⟩ : ∃ y : Nat → Int32, y = upd f_98 (z_101 : Int32).toNatClampNeg (vp_nar .boolean 0) := ⟨_, rfl⟩
      have hP : va_P (dC, dI) vwCl [(h0, .inr (11, fs_10)), (a0, .inl (cZ, 8, .inl (fun _ => 0))), (a8, .inl (c8, 248, .inl f_102))] H := by rw [ef_102]; exact hP
      have hD : va_D A [(h0, .inr (11, fs_10)), (a0, .inl (cZ, 8, .inl (fun _ => 0))), (a8, .inl (c8, 248, .inl f_102))] := by rw [ef_102]; exact hD
      refine lv_iinc (v := 23) (lv' := [(2, .int 23), (0, .ref h0), (1, .int p0)]) hx hb dX9_make_80 hl (k := 0) rfl (by decide) (by decide) rfl (fun ls hl => ?_)
      refine lv_goto (tgt := 62) hx hb dX9_make_83 (by decide) ?_
      refine lv_iload_n hx hb dX9_make_62 rfl (lv_at hl 0 rfl) ?_
      refine lv_bipush (v := 31) hx hb dX9_make_63 (by decide) ?_
      refine lv_icmp_ge (tgt := 86) hx hb dX9_make_65 (by decide) (fun c_103 => absurd c_103 (by decide)) (fun c_103 => ?_)
      refine lv_aload_n hx hb dX9_make_68 rfl (lv_at hl 1 rfl) ?_
      refine va_get (D := (dC, dI)) (ci := 11) (v := .ref a8) (C := RX9) (T := TX9) (N := 60) hx hb hts iRX9 hown hK hP 0 rfl rfl 8 (by decide) (hts (.fieldLink RX9 36 "RecordBenchModel" "isThere" "[Z") (by decide +kernel)) (fun _ h9 => h9) fs_10h8 dX9_make_69 ?_
      refine lv_bipush (v := 31) hx hb dX9_make_72 (by decide) ?_
      refine lv_iload_n hx hb dX9_make_74 rfl (lv_at hl 2 rfl) ?_
      refine lv_imul hx hb dX9_make_75 ?_
      refine lv_topi (fun z_104 ez_104 => ?_)
      refine lv_iload_n hx hb dX9_make_76 rfl (lv_at hl 0 rfl) ?_
      refine lv_iadd hx hb dX9_make_77 ?_
      refine lv_topi (fun z_105 ez_105 => ?_)
      refine lv_iconst (v := 0) hx hb dX9_make_78 (by decide) ?_
      refine va_zast hx hb hK hP hD hS 2 1 rfl rfl (by rw [ez_105, ez_104]; exact in_mn (in_of 8 rfl (by decide) c_1 c_2) 23 (by decide)) dX9_make_79 (fun H locs hP hD hS => ?_)
      obtain ⟨f_106, ef_106⟩ : ∃ y : Nat → Int32, y = upd f_102 (z_105 : Int32).toNatClampNeg (vp_nar .boolean 0) := ⟨_, rfl⟩
      have hP : va_P (dC, dI) vwCl [(h0, .inr (11, fs_10)), (a0, .inl (cZ, 8, .inl (fun _ => 0))), (a8, .inl (c8, 248, .inl f_106))] H := by rw [ef_106]; exact hP
      have hD : va_D A [(h0, .inr (11, fs_10)), (a0, .inl (cZ, 8, .inl (fun _ => 0))), (a8, .inl (c8, 248, .inl f_106))] := by rw [ef_106]; exact hD
      refine lv_iinc (v := 24) (lv' := [(2, .int 24), (0, .ref h0), (1, .int p0)]) hx hb dX9_make_80 hl (k := 0) rfl (by decide) (by decide) rfl (fun ls hl => ?_)
      refine lv_goto (tgt := 62) hx hb dX9_make_83 (by decide) ?_
      refine lv_iload_n hx hb dX9_make_62 rfl (lv_at hl 0 rfl) ?_
      refine lv_bipush (v := 31) hx hb dX9_make_63 (by decide) ?_
      refine lv_icmp_ge (tgt := 86) hx hb dX9_make_65 (by decide) (fun c_107 => absurd c_107 (by decide)) (fun c_107 => ?_)
      refine lv_aload_n hx hb dX9_make_68 rfl (lv_at hl 1 rfl) ?_
      refine va_get (D := (dC, dI)) (ci := 11) (v := .ref a8) (C := RX9) (T := TX9) (N := 60) hx hb hts iRX9 hown hK hP 0 rfl rfl 8 (by decide) (hts (.fieldLink RX9 36 "RecordBenchModel" "isThere" "[Z") (by decide +kernel)) (fun _ h9 => h9) fs_10h8 dX9_make_69 ?_
      refine lv_bipush (v := 31) hx hb dX9_make_72 (by decide) ?_
      refine lv_iload_n hx hb dX9_make_74 rfl (lv_at hl 2 rfl) ?_
      refine lv_imul hx hb dX9_make_75 ?_
      refine lv_topi (fun z_108 ez_108 => ?_)
      refine lv_iload_n hx hb dX9_make_76 rfl (lv_at hl 0 rfl) ?_
      refine lv_iadd hx hb dX9_make_77 ?_
      refine lv_topi (fun z_109 ez_109 => ?_)
      refine lv_iconst (v := 0) hx hb dX9_make_78 (by decide) ?_
      refine va_zast hx hb hK hP hD hS 2 1 rfl rfl (by rw [ez_109, ez_108]; exact in_mn (in_of 8 rfl (by decide) c_1 c_2) 24 (by decide)) dX9_make_79 (fun H locs hP hD hS => ?_)
      obtain ⟨f_110, ef_110⟩ : ∃ y : Nat → Int32, y = upd f_106 (z_109 : Int32).toNatClampNeg (vp_nar .boolean 0) := ⟨_, rfl⟩
      have hP : va_P (dC, dI) vwCl [(h0, .inr (11, fs_10)), (a0, .inl (cZ, 8, .inl (fun _ => 0))), (a8, .inl (c8, 248, .inl f_110))] H := by rw [ef_110]; exact hP
      have hD : va_D A [(h0, .inr (11, fs_10)), (a0, .inl (cZ, 8, .inl (fun _ => 0))), (a8, .inl (c8, 248, .inl f_110))] := by rw [ef_110]; exact hD
      refine lv_iinc (v := 25) (lv' := [(2, .int 25), (0, .ref h0), (1, .int p0)]) hx hb dX9_make_80 hl (k := 0) rfl (by decide) (by decide) rfl (fun ls hl => ?_)
      refine lv_goto (tgt := 62) hx hb dX9_make_83 (by decide) ?_
      refine lv_iload_n hx hb dX9_make_62 rfl (lv_at hl 0 rfl) ?_
      refine lv_bipush (v := 31) hx hb dX9_make_63 (by decide) ?_
      refine lv_icmp_ge (tgt := 86) hx hb dX9_make_65 (by decide) (fun c_111 => absurd c_111 (by decide)) (fun c_111 => ?_)
      refine lv_aload_n hx hb dX9_make_68 rfl (lv_at hl 1 rfl) ?_
      refine va_get (D := (dC, dI)) (ci := 11) (v := .ref a8) (C := RX9) (T := TX9) (N := 60) hx hb hts iRX9 hown hK hP 0 rfl rfl 8 (by decide) (hts (.fieldLink RX9 36 "RecordBenchModel" "isThere" "[Z") (by decide +kernel)) (fun _ h9 => h9) fs_10h8 dX9_make_69 ?_
      refine lv_bipush (v := 31) hx hb dX9_make_72 (by decide) ?_
      refine lv_iload_n hx hb dX9_make_74 rfl (lv_at hl 2 rfl) ?_
      refine lv_imul hx hb dX9_make_75 ?_
      refine lv_topi (fun z_112 ez_112 => ?_)
      refine lv_iload_n hx hb dX9_make_76 rfl (lv_at hl 0 rfl) ?_
      refine lv_iadd hx hb dX9_make_77 ?_
      refine lv_topi (fun z_113 ez_113 => ?_)
      refine lv_iconst (v := 0) hx hb dX9_make_78 (by decide) ?_
      refine va_zast hx hb hK hP hD hS 2 1 rfl rfl (by rw [ez_113, ez_112]; exact in_mn (in_of 8 rfl (by decide) c_1 c_2) 25 (by decide)) dX9_make_79 (fun H locs hP hD hS => ?_)
      obtain ⟨f_114, ef_114⟩ : ∃ y : Nat → Int32, y = upd f_110 (z_113 : Int32).toNatClampNeg (vp_nar .boolean 0) := ⟨_, rfl⟩
      have hP : va_P (dC, dI) vwCl [(h0, .inr (11, fs_10)), (a0, .inl (cZ, 8, .inl (fun _ => 0))), (a8, .inl (c8, 248, .inl f_114))] H := by rw [ef_114]; exact hP
      have hD : va_D A [(h0, .inr (11, fs_10)), (a0, .inl (cZ, 8, .inl (fun _ => 0))), (a8, .inl (c8, 248, .inl f_114))] := by rw [ef_114]; exact hD
      refine lv_iinc (v := 26) (lv' := [(2, .int 26), (0, .ref h0), (1, .int p0)]) hx hb dX9_make_80 hl (k := 0) rfl (by decide) (by decide) rfl (fun ls hl => ?_)
      refine lv_goto (tgt := 62) hx hb dX9_make_83 (by decide) ?_
      refine lv_iload_n hx hb dX9_make_62 rfl (lv_at hl 0 rfl) ?_
      refine lv_bipush (v := 31) hx hb dX9_make_63 (by decide) ?_
      refine lv_icmp_ge (tgt := 86) hx hb dX9_make_65 (by decide) (fun c_115 => absurd c_115 (by decide)) (fun c_115 => ?_)
      refine lv_aload_n hx hb dX9_make_68 rfl (lv_at hl 1 rfl) ?_
      refine va_get (D := (dC, dI)) (ci := 11) (v := .ref a8) (C := RX9) (T := TX9) (N := 60) hx hb hts iRX9 hown hK hP 0 rfl rfl 8 (by decide) (hts (.fieldLink RX9 36 "RecordBenchModel" "isThere" "[Z") (by decide +kernel)) (fun _ h9 => h9) fs_10h8 dX9_make_69 ?_
      refine lv_bipush (v := 31) hx hb dX9_make_72 (by decide) ?_
      refine lv_iload_n hx hb dX9_make_74 rfl (lv_at hl 2 rfl) ?_
      refine lv_imul hx hb dX9_make_75 ?_
      refine lv_topi (fun z_116 ez_116 => ?_)
      refine lv_iload_n hx hb dX9_make_76 rfl (lv_at hl 0 rfl) ?_
      refine lv_iadd hx hb dX9_make_77 ?_
      refine lv_topi (fun z_117 ez_117 => ?_)
      refine lv_iconst (v := 0) hx hb dX9_make_78 (by decide) ?_
      refine va_zast hx hb hK hP hD hS 2 1 rfl rfl (by rw [ez_117, ez_116]; exact in_mn (in_of 8 rfl (by decide) c_1 c_2) 26 (by decide)) dX9_make_79 (fun H locs hP hD hS => ?_)
      obtain ⟨f_118, ef_118⟩ : ∃ y : Nat → Int32, y = upd f_114 (z_117 : Int32).toNatClampNeg (vp_nar .boolean 0) := ⟨_, rfl⟩
      have hP : va_P (dC, dI) vwCl [(h0, .inr (11, fs_10)), (a0, .inl (cZ, 8, .inl (fun _ => 0))), (a8, .inl (c8, 248, .inl f_118))] H := by rw [ef_118]; exact hP
      have hD : va_D A [(h0, .inr (11, fs_10)), (a0, .inl (cZ, 8, .inl (fun _ => 0))), (a8, .inl (c8, 248, .inl f_118))] := by rw [ef_118]; exact hD
      refine lv_iinc (v := 27) (lv' := [(2, .int 27), (0, .ref h0), (1, .int p0)]) hx hb dX9_make_80 hl (k := 0) rfl (by decide) (by decide) rfl (fun ls hl => ?_)
      refine lv_goto (tgt := 62) hx hb dX9_make_83 (by decide) ?_
      refine lv_iload_n hx hb dX9_make_62 rfl (lv_at hl 0 rfl) ?_
      refine lv_bipush (v := 31) hx hb dX9_make_63 (by decide) ?_
      refine lv_icmp_ge (tgt := 86) hx hb dX9_make_65 (by decide) (fun c_119 => absurd c_119 (by decide)) (fun c_119 => ?_)
      refine lv_aload_n hx hb dX9_make_68 rfl (lv_at hl 1 rfl) ?_
      refine va_get (D := (dC, dI)) (ci := 11) (v := .ref a8) (C := RX9) (T := TX9) (N := 60) hx hb hts iRX9 hown hK hP 0 rfl rfl 8 (by decide) (hts (.fieldLink RX9 36 "RecordBenchModel" "isThere" "[Z") (by decide +kernel)) (fun _ h9 => h9) fs_10h8 dX9_make_69 ?_
      refine lv_bipush (v := 31) hx hb dX9_make_72 (by decide) ?_
      refine lv_iload_n hx hb dX9_make_74 rfl (lv_at hl 2 rfl) ?_
      refine lv_imul hx hb dX9_make_75 ?_
      refine lv_topi (fun z_120 ez_120 => ?_)
      refine lv_iload_n hx hb dX9_make_76 rfl (lv_at hl 0 rfl) ?_
      refine lv_iadd hx hb dX9_make_77 ?_
      refine lv_topi (fun z_121 ez_121 => ?_)
      refine lv_iconst (v := 0) hx hb dX9_make_78 (by decide) ?_
      refine va_zast hx hb hK hP hD hS 2 1 rfl rfl (by rw [ez_121, ez_120]; exact in_mn (in_of 8 rfl (by decide) c_1 c_2) 27 (by decide)) dX9_make_79 (fun H locs hP hD hS => ?_)
      obtain ⟨f_122, ef_122⟩ : ∃ y : Nat → Int32, y = upd f_118 (z_121 : Int32).toNatClampNeg (vp_nar .boolean 0) := ⟨_, rfl⟩
      have hP : va_P (dC, dI) vwCl [(h0, .inr (11, fs_10)), (a0, .inl (cZ, 8, .inl (fun _ => 0))), (a8, .inl (c8, 248, .inl f_122))] H := by rw [ef_122]; exact hP
      have hD : va_D A [(h0, .inr (11, fs_10)), (a0, .inl (cZ, 8, .inl (fun _ => 0))), (a8, .inl (c8, 248, .inl f_122))] := by rw [ef_122]; exact hD
      refine lv_iinc (v := 28) (lv' := [(2, .int 28), (0, .ref h0), (1, .int p0)]) hx hb dX9_make_80 hl (k := 0) rfl (by decide) (by decide) rfl (fun ls hl => ?_)
      refine lv_goto (tgt := 62) hx hb dX9_make_83 (by decide) ?_
      refine lv_iload_n hx hb dX9_make_62 rfl (lv_at hl 0 rfl) ?_
      refine lv_bipush (v := 31) hx hb dX9_make_63 (by decide) ?_
      refine lv_icmp_ge (tgt := 86) hx hb dX9_make_65 (by decide) (fun c_123 => absurd c_123 (by decide)) (fun c_123 => ?_)
      refine lv_aload_n hx hb dX9_make_68 rfl (lv_at hl 1 rfl) ?_
      refine va_get (D := (dC, dI)) (ci := 11) (v := .ref a8) (C := RX9) (T := TX9) (N := 60) hx hb hts iRX9 hown hK hP 0 rfl rfl 8 (by decide) (hts (.fieldLink RX9 36 "RecordBenchModel" "isThere" "[Z") (by decide +kernel)) (fun _ h9 => h9) fs_10h8 dX9_make_69 ?_
      refine lv_bipush (v := 31) hx hb dX9_make_72 (by decide) ?_
      refine lv_iload_n hx hb dX9_make_74 rfl (lv_at hl 2 rfl) ?_
      refine lv_imul hx hb dX9_make_75 ?_
      refine lv_topi (fun z_124 ez_124 => ?_)
      refine lv_iload_n hx hb dX9_make_76 rfl (lv_at hl 0 rfl) ?_
      refine lv_iadd hx hb dX9_make_77 ?_
      refine lv_topi (fun z_125 ez_125 => ?_)
      refine lv_iconst (v := 0) hx hb dX9_make_78 (by decide) ?_
      refine va_zast hx hb hK hP hD hS 2 1 rfl rfl (by rw [ez_125, ez_124]; exact in_mn (in_of 8 rfl (by decide) c_1 c_2) 28 (by decide)) dX9_make_79 (fun H locs hP hD hS => ?_)
      obtain ⟨f_126, ef_126⟩ : ∃ y : Nat → Int32, y = upd f_122 (z_125 : Int32).toNatClampNeg (vp_nar .boolean 0) := ⟨_, rfl⟩
      have hP : va_P (dC, dI) vwCl [(h0, .inr (11, fs_10)), (a0, .inl (cZ, 8, .inl (fun _ => 0))), (a8, .inl (c8, 248, .inl f_126))] H := by rw [ef_126]; exact hP
      have hD : va_D A [(h0, .inr (11, fs_10)), (a0, .inl (cZ, 8, .inl (fun _ => 0))), (a8, .inl (c8, 248, .inl f_126))] := by rw [ef_126]; exact hD
      refine lv_iinc (v := 29) (lv' := [(2, .int 29), (0, .ref h0), (1, .int p0)]) hx hb dX9_make_80 hl (k := 0) rfl (by decide) (by decide) rfl (fun ls hl => ?_)
      refine lv_goto (tgt := 62) hx hb dX9_make_83 (by decide) ?_
      refine lv_iload_n hx hb dX9_make_62 rfl (lv_at hl 0 rfl) ?_
      refine lv_bipush (v := 31) hx hb dX9_make_63 (by decide) ?_
      refine lv_icmp_ge (tgt := 86) hx hb dX9_make_65 (by decide) (fun c_127 => absurd c_127 (by decide)) (fun c_127 => ?_)
      refine lv_aload_n hx hb dX9_make_68 rfl (lv_at hl 1 rfl) ?_
      refine va_get (D := (dC, dI)) (ci := 11) (v := .ref a8) (C := RX9) (T := TX9) (N := 60) hx hb hts iRX9 hown hK hP 0 rfl rfl 8 (by decide) (hts (.fieldLink RX9 36 "RecordBenchModel" "isThere" "[Z") (by decide +kernel)) (fun _ h9 => h9) fs_10h8 dX9_make_69 ?_
      refine lv_bipush (v := 31) hx hb dX9_make_72 (by decide) ?_
      refine lv_iload_n hx hb dX9_make_74 rfl (lv_at hl 2 rfl) ?_
      refine lv_imul hx hb dX9_make_75 ?_
      refine lv_topi (fun z_128 ez_128 => ?_)
      refine lv_iload_n hx hb dX9_make_76 rfl (lv_at hl 0 rfl) ?_
      refine lv_iadd hx hb dX9_make_77 ?_
      refine lv_topi (fun z_129 ez_129 => ?_)
      refine lv_iconst (v := 0) hx hb dX9_make_78 (by decide) ?_
      refine va_zast hx hb hK hP hD hS 2 1 rfl rfl (by rw [ez_129, ez_128]; exact in_mn (in_of 8 rfl (by decide) c_1 c_2) 29 (by decide)) dX9_make_79 (fun H locs hP hD hS => ?_)
      obtain ⟨f_130, ef_130⟩ : ∃ y : Nat → Int32, y = upd f_126 (z_129 : Int32).toNatClampNeg (vp_nar .boolean 0) := ⟨_, rfl⟩
      have hP : va_P (dC, dI) vwCl [(h0, .inr (11, fs_10)), (a0, .inl (cZ, 8, .inl (fun _ => 0))), (a8, .inl (c8, 248, .inl f_130))] H := by rw [ef_130]; exact hP
      have hD : va_D A [(h0, .inr (11, fs_10)), (a0, .inl (cZ, 8, .inl (fun _ => 0))), (a8, .inl (c8, 248, .inl f_130))] := by rw [ef_130]; exact hD
      refine lv_iinc (v := 30) (lv' := [(2, .int 30), (0, .ref h0), (1, .int p0)]) hx hb dX9_make_80 hl (k := 0) rfl (by decide) (by decide) rfl (fun ls hl => ?_)
      refine lv_goto (tgt := 62) hx hb dX9_make_83 (by decide) ?_
      refine lv_iload_n hx hb dX9_make_62 rfl (lv_at hl 0 rfl) ?_
      refine lv_bipush (v := 31) hx hb dX9_make_63 (by decide) ?_
      refine lv_icmp_ge (tgt := 86) hx hb dX9_make_65 (by decide) (fun c_131 => absurd c_131 (by decide)) (fun c_131 => ?_)
      refine lv_aload_n hx hb dX9_make_68 rfl (lv_at hl 1 rfl) ?_
      refine va_get (D := (dC, dI)) (ci := 11) (v := .ref a8) (C := RX9) (T := TX9) (N := 60) hx hb hts iRX9 hown hK hP 0 rfl rfl 8 (by decide) (hts (.fieldLink RX9 36 "RecordBenchModel" "isThere" "[Z") (by decide +kernel)) (fun _ h9 => h9) fs_10h8 dX9_make_69 ?_
      refine lv_bipush (v := 31) hx hb dX9_make_72 (by decide) ?_
      refine lv_iload_n hx hb dX9_make_74 rfl (lv_at hl 2 rfl) ?_
      refine lv_imul hx hb dX9_make_75 ?_
      refine lv_topi (fun z_132 ez_132 => ?_)
      refine lv_iload_n hx hb dX9_make_76 rfl (lv_at hl 0 rfl) ?_
      refine lv_iadd hx hb dX9_make_77 ?_
      refine lv_topi (fun z_133 ez_133 => ?_)
      refine lv_iconst (v := 0) hx hb dX9_make_78 (by decide) ?_
      refine va_zast hx hb hK hP hD hS 2 1 rfl rfl (by rw [ez_133, ez_132]; exact in_mn (in_of 8 rfl (by decide) c_1 c_2) 30 (by decide)) dX9_make_79 (fun H locs hP hD hS => ?_)
      obtain ⟨f_134, ef_134⟩ : ∃ y : Nat → Int32, y = upd f_130 (z_133 : Int32).toNatClampNeg (vp_nar .boolean 0) := ⟨_, rfl⟩
      have hP : va_P (dC, dI) vwCl [(h0, .inr (11, fs_10)), (a0, .inl (cZ, 8, .inl (fun _ => 0))), (a8, .inl (c8, 248, .inl f_134))] H := by rw [ef_134]; exact hP
      have hD : va_D A [(h0, .inr (11, fs_10)), (a0, .inl (cZ, 8, .inl (fun _ => 0))), (a8, .inl (c8, 248, .inl f_134))] := by rw [ef_134]; exact hD
      refine lv_iinc (v := 31) (lv' := [(2, .int 31), (0, .ref h0), (1, .int p0)]) hx hb dX9_make_80 hl (k := 0) rfl (by decide) (by decide) rfl (fun ls hl => ?_)
      refine lv_goto (tgt := 62) hx hb dX9_make_83 (by decide) ?_
      refine lv_iload_n hx hb dX9_make_62 rfl (lv_at hl 0 rfl) ?_
      refine lv_bipush (v := 31) hx hb dX9_make_63 (by decide) ?_
      refine lv_icmp_ge (tgt := 86) hx hb dX9_make_65 (by decide) (fun c_135 => ?_) (fun c_135 => absurd (by decide) c_135)
      refine lv_aload_n hx hb dX9_make_86 rfl (lv_at hl 1 rfl) ?_
      refine va_get (D := (dC, dI)) (ci := 11) (v := .int 0) (C := RX9) (T := TX9) (N := 60) hx hb hts iRX9 hown hK hP 0 rfl rfl 13 (by decide) (hts (.fieldLink RX9 135 "RecordBenchModel" "bad" "I") (by decide +kernel)) (fun _ h9 => h9) fs_10h13 dX9_make_87 ?_
      refine lv_if_ne (tgt := 109) hx hb dX9_make_90 (by decide) (fun c_136 => absurd (by decide) c_136) (fun c_136 => ?_)
      refine lv_aload_n hx hb dX9_make_93 rfl (lv_at hl 1 rfl) ?_
      have hFc := va_free (wc := [(h0, .inr (11, fs_10))]) hD hS hA [0] rfl
      refine va_calli (va_runV (As := []) (rest := []) ⟨hx, hb, hml, hown, hts⟩ (c_X9_next l dC dI h0 fs_10 lfs_10 a0 fs_10h0 fs_10h11 fs_10h12 fs_10h13 fs_10h14 fs_10h27 H.size) (cwV 0 hts gp_X9_make_X9_next_150 rfl rfl rfl (by decide +kernel) ⟨Nat.le_of_ble_eq_true rfl, Nat.le_of_ble_eq_true rfl⟩) ⟨Pr.blind _, va_recv hK hP (ci := 11) (q0 := 0) rfl rfl, fun U hU hW => ⟨rfl, Pr.at (hP.sub (ws' := [(h0, .inr (11, fs_10))]) [0] rfl) (hK.sub (tys' := []) [] rfl) (hD.sub (ws' := [(h0, .inr (11, fs_10))]) [0] (by decide) rfl) hN hZ hS hFc hU hW⟩⟩ rfl rfl hl.1 rfl (lv_room (Nat.le_of_ble_eq_true rfl)) dX9_make_94 ⟨Nat.le_of_ble_eq_true rfl, Nat.le_of_ble_eq_true rfl⟩) hS (fun q _ h => hFc q h) hFc (fun r_137 u t H1 locs ht hvm hw_138 hB hz1 hk1 hS => ?_)
      obtain ⟨fs1_139, rfl⟩ : ∃ z, z = u := ⟨_, rfl⟩
      obtain ⟨hP, hD, hK⟩ := Bq.join (wr := [(a0, .inl (cZ, 8, .inl (fun _ => 0))), (a8, .inl (c8, 248, .inl f_134))]) hB ht hvm hP hD [0] [1, 2] rfl rfl (by decide) (by decide) hk1 hFc hK
      generalize H1 = H at hP hS ⊢
      have hP : va_P (dC, dI) vwCl [(a0, .inl (cZ, 8, .inl (fun _ => 0))), (a8, .inl (c8, 248, .inl f_134)), (h0, .inr (11, fs1_139))] H := hP
      have hD : va_D A [(a0, .inl (cZ, 8, .inl (fun _ => 0))), (a8, .inl (c8, 248, .inl f_134)), (h0, .inr (11, fs1_139))] := hD
      have hK : va_K (dC, dI) vwCl [(cZ, .boolean), (c8, .boolean)] s := hK
      try dsimp only at hw_138
      obtain ⟨k_140, k_141, k_142, k_143, k_144, k_145, k_146, k_147⟩ := hw_138
      refine W_toi (y := -1) k_140 ?_
      refine lv_iconst (v := (-1)) hx hb dX9_make_97 (by decide) ?_
      refine lv_icmp_eq (tgt := 109) hx hb dX9_make_98 (by decide) (fun c_148 => ?_) (fun c_148 => absurd (by decide) c_148)
      refine lv_aload_n hx hb dX9_make_109 rfl (lv_at hl 1 rfl) ?_
      refine lv_aload_n hx hb dX9_make_110 rfl (lv_at hl 1 rfl) ?_
      refine va_get (D := (dC, dI)) (ci := 11) (v := .int 0) (C := RX9) (T := TX9) (N := 60) hx hb hts iRX9 hown hK hP 2 rfl rfl 13 (by decide) (hts (.fieldLink RX9 135 "RecordBenchModel" "bad" "I") (by decide +kernel)) (fun _ h9 => h9) k_145 dX9_make_111 ?_
      refine va_put (D := (dC, dI)) (ci := 11) (v := .int 0) (ty := .int) (C := RX9) (T := TX9) (N := 60) hx hb hts iRX9 tyX9 tyX9_ok nmX9 hown hK hP hD hS 2 rfl rfl 15 (by decide) (hts (.fieldLink RX9 236 "RecordBenchModel" "fault" "I") (by decide +kernel)) (fun _ h9 => h9) rfl (by decide +kernel) rfl rfl (by have := k_141; omega) dX9_make_114 (fun H locs hP hD hS => ?_)
      obtain ⟨fs_149, efs_149⟩ : ∃ y, y = fs1_139.set 15 (.int 0) := ⟨_, rfl⟩
      rw [← efs_149] at hP hD
      have lfs_149 : fs_149.length = 60 := by rw [efs_149, List.length_set]; exact k_141
      have fs_149h11 : fs_149[11]? = some (.int 0) := by rw [efs_149, List.getElem?_set_ne (by decide)]; exact k_143
      have fs_149h12 : fs_149[12]? = some (.int 0) := by rw [efs_149, List.getElem?_set_ne (by decide)]; exact k_144
      have fs_149h13 : fs_149[13]? = some (.int 0) := by rw [efs_149, List.getElem?_set_ne (by decide)]; exact k_145
      have fs_149h14 : fs_149[14]? = some (.int (-1)) := by rw [efs_149, List.getElem?_set_ne (by decide)]; exact k_146
      have fs_149h27 : fs_149[27]? = some (.int 0) := by rw [efs_149, List.getElem?_set_ne (by decide)]; exact k_147
      have fs_149h0 : fs_149[0]? = some (.ref a0) := by rw [efs_149, List.getElem?_set_ne (by decide)]; exact k_142
      have fs_149h15 : fs_149[15]? = some (.int 0) := by rw [efs_149, List.getElem?_set_self (by have := k_141; omega)]
      have hP : va_P (dC, dI) vwCl [(a0, .inl (cZ, 8, .inl (fun _ => 0))), (a8, .inl (c8, 248, .inl f_134)), (h0, .inr (11, fs_149))] H := hP
      have hD : va_D A [(a0, .inl (cZ, 8, .inl (fun _ => 0))), (a8, .inl (c8, 248, .inl f_134)), (h0, .inr (11, fs_149))] := hD
      refine lv_aload_n hx hb dX9_make_117 rfl (lv_at hl 1 rfl) ?_
      refine lv_aload_n hx hb dX9_make_118 rfl (lv_at hl 1 rfl) ?_
      refine va_get (D := (dC, dI)) (ci := 11) (v := .int (-1)) (C := RX9) (T := TX9) (N := 60) hx hb hts iRX9 hown hK hP 2 rfl rfl 14 (by decide) (hts (.fieldLink RX9 138 "RecordBenchModel" "badPlace" "I") (by decide +kernel)) (fun _ h9 => h9) fs_149h14 dX9_make_119 ?_
      refine va_put (D := (dC, dI)) (ci := 11) (v := .int (-1)) (ty := .int) (C := RX9) (T := TX9) (N := 60) hx hb hts iRX9 tyX9 tyX9_ok nmX9 hown hK hP hD hS 2 rfl rfl 16 (by decide) (hts (.fieldLink RX9 42 "RecordBenchModel" "faultPlace" "I") (by decide +kernel)) (fun _ h9 => h9) rfl (by decide +kernel) rfl rfl (by have := lfs_149; omega) dX9_make_122 (fun H locs hP hD hS => ?_)
      obtain ⟨fs_150, efs_150⟩ : ∃ y, y = fs_149.set 16 (.int (-1)) := ⟨_, rfl⟩
      rw [← efs_150] at hP hD
      have lfs_150 : fs_150.length = 60 := by rw [efs_150, List.length_set]; exact lfs_149
      have fs_150h11 : fs_150[11]? = some (.int 0) := by rw [efs_150, List.getElem?_set_ne (by decide)]; exact fs_149h11
      have fs_150h12 : fs_150[12]? = some (.int 0) := by rw [efs_150, List.getElem?_set_ne (by decide)]; exact fs_149h12
      have fs_150h13 : fs_150[13]? = some (.int 0) := by rw [efs_150, List.getElem?_set_ne (by decide)]; exact fs_149h13
      have fs_150h14 : fs_150[14]? = some (.int (-1)) := by rw [efs_150, List.getElem?_set_ne (by decide)]; exact fs_149h14
      have fs_150h27 : fs_150[27]? = some (.int 0) := by rw [efs_150, List.getElem?_set_ne (by decide)]; exact fs_149h27
      have fs_150h0 : fs_150[0]? = some (.ref a0) := by rw [efs_150, List.getElem?_set_ne (by decide)]; exact fs_149h0
      have fs_150h15 : fs_150[15]? = some (.int 0) := by rw [efs_150, List.getElem?_set_ne (by decide)]; exact fs_149h15
      have fs_150h16 : fs_150[16]? = some (.int (-1)) := by rw [efs_150, List.getElem?_set_self (by have := lfs_149; omega)]
      have hP : va_P (dC, dI) vwCl [(a0, .inl (cZ, 8, .inl (fun _ => 0))), (a8, .inl (c8, 248, .inl f_134)), (h0, .inr (11, fs_150))] H := hP
      have hD : va_D A [(a0, .inl (cZ, 8, .inl (fun _ => 0))), (a8, .inl (c8, 248, .inl f_134)), (h0, .inr (11, fs_150))] := hD
      refine lv_aload_n hx hb dX9_make_125 rfl (lv_at hl 1 rfl) ?_
      refine va_get (D := (dC, dI)) (ci := 11) (v := .int 0) (C := RX9) (T := TX9) (N := 60) hx hb hts iRX9 hown hK hP 2 rfl rfl 13 (by decide) (hts (.fieldLink RX9 135 "RecordBenchModel" "bad" "I") (by decide +kernel)) (fun _ h9 => h9) fs_150h13 dX9_make_126 ?_
      refine lv_if_eq (tgt := 134) hx hb dX9_make_129 (by decide) (fun c_151 => ?_) (fun c_151 => absurd (by decide) c_151)
      refine lv_aload_n hx hb dX9_make_134 rfl (lv_at hl 1 rfl) ?_
      refine va_get (D := (dC, dI)) (ci := 11) (v := .ref a0) (C := RX9) (T := TX9) (N := 60) hx hb hts iRX9 hown hK hP 2 rfl rfl 0 (by decide) (hts (.fieldLink RX9 7 "RecordBenchModel" "told" "[Z") (by decide +kernel)) (fun _ h9 => h9) fs_150h0 dX9_make_135 ?_
      refine lv_iload_n hx hb dX9_make_138 rfl (lv_at hl 2 rfl) ?_
      refine lv_iconst (v := 1) hx hb dX9_make_139 (by decide) ?_
      refine va_zast hx hb hK hP hD hS 0 0 rfl rfl (in_of 8 rfl (by decide) c_1 c_2) dX9_make_140 (fun H locs hP hD hS => ?_)
      obtain ⟨f_152, ef_152⟩ : ∃ y : Nat → Int32, y = upd (fun _ => 0) (p0 : Int32).toNatClampNeg (vp_nar .boolean 1) := ⟨_, rfl⟩
      have hP : va_P (dC, dI) vwCl [(a0, .inl (cZ, 8, .inl f_152)), (a8, .inl (c8, 248, .inl f_134)), (h0, .inr (11, fs_150))] H := by rw [ef_152]; exact hP
      have hD : va_D A [(a0, .inl (cZ, 8, .inl f_152)), (a8, .inl (c8, 248, .inl f_134)), (h0, .inr (11, fs_150))] := by rw [ef_152]; exact hD
      refine lv_aload_n hx hb dX9_make_141 rfl (lv_at hl 1 rfl) ?_
      refine va_get (D := (dC, dI)) (ci := 11) (v := .int 0) (C := RX9) (T := TX9) (N := 60) hx hb hts iRX9 hown hK hP 2 rfl rfl 27 (by decide) (hts (.fieldLink RX9 177 "RecordBenchModel" "fields" "I") (by decide +kernel)) (fun _ h9 => h9) fs_150h27 dX9_make_142 ?_
      have hP9 := hP.sub (ws' := []) [] rfl
      have hD9 := hD.sub (ws' := []) [] (by decide) rfl
      have hK9 := hK.sub (tys' := []) [] rfl
      exact W.iret (v := 0) hx hb hr (fun t ht hW => ⟨⟨0, (), rfl, (if_neg (fun h => h.elim c_1 c_2)).symm, by rw [ht]; exact hP9, va_K.moved hW.alike hK9, hD9⟩, hS.F ht⟩) hS.2.2 dX9_make_145
