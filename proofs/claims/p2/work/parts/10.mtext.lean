theorem dX9_digit_0 : decode cX9_digit 0 = .ok (.aload_n 0, 1) := by decide +kernel
theorem dX9_digit_1 : decode cX9_digit 1 = .ok (.invokevirtual 150, 3) := by decide +kernel
theorem dX9_digit_10 : decode cX9_digit 10 = .ok (.aload_n 0, 1) := by decide +kernel
theorem dX9_digit_11 : decode cX9_digit 11 = .ok (.getfield 141, 3) := by decide +kernel
theorem dX9_digit_14 : decode cX9_digit 14 = .ok (.aload_n 0, 1) := by decide +kernel
theorem dX9_digit_15 : decode cX9_digit 15 = .ok (.getfield 162, 3) := by decide +kernel
theorem dX9_digit_18 : decode cX9_digit 18 = .ok (.if_icmp .ne 14, 3) := by decide +kernel
theorem dX9_digit_21 : decode cX9_digit 21 = .ok (.aload_n 0, 1) := by decide +kernel
theorem dX9_digit_22 : decode cX9_digit 22 = .ok (.iconst 1, 1) := by decide +kernel
theorem dX9_digit_23 : decode cX9_digit 23 = .ok (.aload_n 0, 1) := by decide +kernel
theorem dX9_digit_24 : decode cX9_digit 24 = .ok (.getfield 141, 3) := by decide +kernel
theorem dX9_digit_27 : decode cX9_digit 27 = .ok (.invokevirtual 154, 3) := by decide +kernel
theorem dX9_digit_30 : decode cX9_digit 30 = .ok (.iconst 0, 1) := by decide +kernel
theorem dX9_digit_31 : decode cX9_digit 31 = .ok (.ireturn, 1) := by decide +kernel
theorem dX9_digit_32 : decode cX9_digit 32 = .ok (.aload_n 0, 1) := by decide +kernel
theorem dX9_digit_33 : decode cX9_digit 33 = .ok (.dup, 1) := by decide +kernel
theorem dX9_digit_34 : decode cX9_digit 34 = .ok (.getfield 141, 3) := by decide +kernel
theorem dX9_digit_37 : decode cX9_digit 37 = .ok (.iconst 1, 1) := by decide +kernel
theorem dX9_digit_38 : decode cX9_digit 38 = .ok (.iadd, 1) := by decide +kernel
theorem dX9_digit_39 : decode cX9_digit 39 = .ok (.putfield 141, 3) := by decide +kernel
theorem dX9_digit_4 : decode cX9_digit 4 = .ok (.invokestatic 158, 3) := by decide +kernel
theorem dX9_digit_42 : decode cX9_digit 42 = .ok (.aload_n 0, 1) := by decide +kernel
theorem dX9_digit_43 : decode cX9_digit 43 = .ok (.aload_n 0, 1) := by decide +kernel
theorem dX9_digit_44 : decode cX9_digit 44 = .ok (.getfield 141, 3) := by decide +kernel
theorem dX9_digit_47 : decode cX9_digit 47 = .ok (.putfield 162, 3) := by decide +kernel
theorem dX9_digit_50 : decode cX9_digit 50 = .ok (.aload_n 0, 1) := by decide +kernel
theorem dX9_digit_51 : decode cX9_digit 51 = .ok (.getfield 39, 3) := by decide +kernel
theorem dX9_digit_54 : decode cX9_digit 54 = .ok (.aload_n 0, 1) := by decide +kernel
theorem dX9_digit_55 : decode cX9_digit 55 = .ok (.getfield 147, 3) := by decide +kernel
theorem dX9_digit_58 : decode cX9_digit 58 = .ok (.iaload, 1) := by decide +kernel
theorem dX9_digit_59 : decode cX9_digit 59 = .ok (.bipush 48, 2) := by decide +kernel
theorem dX9_digit_61 : decode cX9_digit 61 = .ok (.isub, 1) := by decide +kernel
theorem dX9_digit_62 : decode cX9_digit 62 = .ok (.ireturn, 1) := by decide +kernel
theorem dX9_digit_7 : decode cX9_digit 7 = .ok (.ifCond .eq 14, 3) := by decide +kernel
theorem dX9_ends_0 : decode cX9_ends 0 = .ok (.aload_n 0, 1) := by decide +kernel
theorem dX9_ends_1 : decode cX9_ends 1 = .ok (.getfield 141, 3) := by decide +kernel
theorem dX9_ends_11 : decode cX9_ends 11 = .ok (.aload_n 0, 1) := by decide +kernel
theorem dX9_ends_12 : decode cX9_ends 12 = .ok (.getfield 39, 3) := by decide +kernel
theorem dX9_ends_15 : decode cX9_ends 15 = .ok (.aload_n 0, 1) := by decide +kernel
theorem dX9_ends_16 : decode cX9_ends 16 = .ok (.getfield 141, 3) := by decide +kernel
theorem dX9_ends_19 : decode cX9_ends 19 = .ok (.iaload, 1) := by decide +kernel
theorem dX9_ends_20 : decode cX9_ends 20 = .ok (.invokestatic 158, 3) := by decide +kernel
theorem dX9_ends_23 : decode cX9_ends 23 = .ok (.ifCond .eq 12, 3) := by decide +kernel
theorem dX9_ends_26 : decode cX9_ends 26 = .ok (.aload_n 0, 1) := by decide +kernel
theorem dX9_ends_27 : decode cX9_ends 27 = .ok (.iconst 1, 1) := by decide +kernel
theorem dX9_ends_28 : decode cX9_ends 28 = .ok (.aload_n 0, 1) := by decide +kernel
theorem dX9_ends_29 : decode cX9_ends 29 = .ok (.getfield 141, 3) := by decide +kernel
theorem dX9_ends_32 : decode cX9_ends 32 = .ok (.invokevirtual 154, 3) := by decide +kernel
theorem dX9_ends_35 : decode cX9_ends 35 = .ok (.return_, 1) := by decide +kernel
theorem dX9_ends_4 : decode cX9_ends 4 = .ok (.aload_n 0, 1) := by decide +kernel
theorem dX9_ends_5 : decode cX9_ends 5 = .ok (.getfield 144, 3) := by decide +kernel
theorem dX9_ends_8 : decode cX9_ends 8 = .ok (.if_icmp .ge 27, 3) := by decide +kernel
theorem dX9_fail_0 : decode cX9_fail 0 = .ok (.aload_n 0, 1) := by decide +kernel
theorem dX9_fail_1 : decode cX9_fail 1 = .ok (.getfield 135, 3) := by decide +kernel
theorem dX9_fail_10 : decode cX9_fail 10 = .ok (.putfield 135, 3) := by decide +kernel
theorem dX9_fail_13 : decode cX9_fail 13 = .ok (.aload_n 0, 1) := by decide +kernel
theorem dX9_fail_14 : decode cX9_fail 14 = .ok (.iload_n 2, 1) := by decide +kernel
theorem dX9_fail_15 : decode cX9_fail 15 = .ok (.putfield 138, 3) := by decide +kernel
theorem dX9_fail_18 : decode cX9_fail 18 = .ok (.return_, 1) := by decide +kernel
theorem dX9_fail_4 : decode cX9_fail 4 = .ok (.ifCond .eq 4, 3) := by decide +kernel
theorem dX9_fail_7 : decode cX9_fail 7 = .ok (.return_, 1) := by decide +kernel
theorem dX9_fail_8 : decode cX9_fail 8 = .ok (.aload_n 0, 1) := by decide +kernel
theorem dX9_fail_9 : decode cX9_fail 9 = .ok (.iload_n 1, 1) := by decide +kernel
theorem dX9_isDigit_0 : decode cX9_isDigit 0 = .ok (.iload_n 0, 1) := by decide +kernel
theorem dX9_isDigit_1 : decode cX9_isDigit 1 = .ok (.bipush 48, 2) := by decide +kernel
theorem dX9_isDigit_12 : decode cX9_isDigit 12 = .ok (.iconst 1, 1) := by decide +kernel
theorem dX9_isDigit_13 : decode cX9_isDigit 13 = .ok (.goto 4, 3) := by decide +kernel
theorem dX9_isDigit_16 : decode cX9_isDigit 16 = .ok (.iconst 0, 1) := by decide +kernel
theorem dX9_isDigit_17 : decode cX9_isDigit 17 = .ok (.ireturn, 1) := by decide +kernel
theorem dX9_isDigit_3 : decode cX9_isDigit 3 = .ok (.if_icmp .lt 13, 3) := by decide +kernel
theorem dX9_isDigit_6 : decode cX9_isDigit 6 = .ok (.iload_n 0, 1) := by decide +kernel
theorem dX9_isDigit_7 : decode cX9_isDigit 7 = .ok (.bipush 57, 2) := by decide +kernel
theorem dX9_isDigit_9 : decode cX9_isDigit 9 = .ok (.if_icmp .gt 7, 3) := by decide +kernel
theorem dX9_isLetter_0 : decode cX9_isLetter 0 = .ok (.iload_n 0, 1) := by decide +kernel
theorem dX9_isLetter_1 : decode cX9_isLetter 1 = .ok (.bipush 97, 2) := by decide +kernel
theorem dX9_isLetter_12 : decode cX9_isLetter 12 = .ok (.iconst 1, 1) := by decide +kernel
theorem dX9_isLetter_13 : decode cX9_isLetter 13 = .ok (.goto 4, 3) := by decide +kernel
theorem dX9_isLetter_16 : decode cX9_isLetter 16 = .ok (.iconst 0, 1) := by decide +kernel
theorem dX9_isLetter_17 : decode cX9_isLetter 17 = .ok (.ireturn, 1) := by decide +kernel
theorem dX9_isLetter_3 : decode cX9_isLetter 3 = .ok (.if_icmp .lt 13, 3) := by decide +kernel
theorem dX9_isLetter_6 : decode cX9_isLetter 6 = .ok (.iload_n 0, 1) := by decide +kernel
theorem dX9_isLetter_7 : decode cX9_isLetter 7 = .ok (.bipush 122, 2) := by decide +kernel
theorem dX9_isLetter_9 : decode cX9_isLetter 9 = .ok (.if_icmp .gt 7, 3) := by decide +kernel
theorem dX9_next_0 : decode cX9_next 0 = .ok (.aload_n 0, 1) := by decide +kernel
theorem dX9_next_1 : decode cX9_next 1 = .ok (.getfield 141, 3) := by decide +kernel
theorem dX9_next_11 : decode cX9_next 11 = .ok (.aload_n 0, 1) := by decide +kernel
theorem dX9_next_12 : decode cX9_next 12 = .ok (.getfield 39, 3) := by decide +kernel
theorem dX9_next_15 : decode cX9_next 15 = .ok (.aload_n 0, 1) := by decide +kernel
theorem dX9_next_16 : decode cX9_next 16 = .ok (.getfield 141, 3) := by decide +kernel
theorem dX9_next_19 : decode cX9_next 19 = .ok (.iaload, 1) := by decide +kernel
theorem dX9_next_20 : decode cX9_next 20 = .ok (.bipush 10, 2) := by decide +kernel
theorem dX9_next_22 : decode cX9_next 22 = .ok (.if_icmp .eq 17, 3) := by decide +kernel
theorem dX9_next_25 : decode cX9_next 25 = .ok (.aload_n 0, 1) := by decide +kernel
theorem dX9_next_26 : decode cX9_next 26 = .ok (.getfield 39, 3) := by decide +kernel
theorem dX9_next_29 : decode cX9_next 29 = .ok (.aload_n 0, 1) := by decide +kernel
theorem dX9_next_30 : decode cX9_next 30 = .ok (.getfield 141, 3) := by decide +kernel
theorem dX9_next_33 : decode cX9_next 33 = .ok (.iaload, 1) := by decide +kernel
theorem dX9_next_34 : decode cX9_next 34 = .ok (.bipush 32, 2) := by decide +kernel
theorem dX9_next_36 : decode cX9_next 36 = .ok (.if_icmp .ne 16, 3) := by decide +kernel
theorem dX9_next_39 : decode cX9_next 39 = .ok (.aload_n 0, 1) := by decide +kernel
theorem dX9_next_4 : decode cX9_next 4 = .ok (.aload_n 0, 1) := by decide +kernel
theorem dX9_next_40 : decode cX9_next 40 = .ok (.dup, 1) := by decide +kernel
theorem dX9_next_41 : decode cX9_next 41 = .ok (.getfield 141, 3) := by decide +kernel
theorem dX9_next_44 : decode cX9_next 44 = .ok (.iconst 1, 1) := by decide +kernel
theorem dX9_next_45 : decode cX9_next 45 = .ok (.iadd, 1) := by decide +kernel
theorem dX9_next_46 : decode cX9_next 46 = .ok (.putfield 141, 3) := by decide +kernel
theorem dX9_next_49 : decode cX9_next 49 = .ok (.goto (-49), 3) := by decide +kernel
theorem dX9_next_5 : decode cX9_next 5 = .ok (.getfield 144, 3) := by decide +kernel
theorem dX9_next_52 : decode cX9_next 52 = .ok (.aload_n 0, 1) := by decide +kernel
theorem dX9_next_53 : decode cX9_next 53 = .ok (.aload_n 0, 1) := by decide +kernel
theorem dX9_next_54 : decode cX9_next 54 = .ok (.getfield 141, 3) := by decide +kernel
theorem dX9_next_57 : decode cX9_next 57 = .ok (.putfield 147, 3) := by decide +kernel
theorem dX9_next_60 : decode cX9_next 60 = .ok (.aload_n 0, 1) := by decide +kernel
theorem dX9_next_61 : decode cX9_next 61 = .ok (.getfield 141, 3) := by decide +kernel
theorem dX9_next_64 : decode cX9_next 64 = .ok (.aload_n 0, 1) := by decide +kernel
theorem dX9_next_65 : decode cX9_next 65 = .ok (.getfield 144, 3) := by decide +kernel
theorem dX9_next_68 : decode cX9_next 68 = .ok (.if_icmp .ge 15, 3) := by decide +kernel
theorem dX9_next_71 : decode cX9_next 71 = .ok (.aload_n 0, 1) := by decide +kernel
theorem dX9_next_72 : decode cX9_next 72 = .ok (.getfield 39, 3) := by decide +kernel
theorem dX9_next_75 : decode cX9_next 75 = .ok (.aload_n 0, 1) := by decide +kernel
theorem dX9_next_76 : decode cX9_next 76 = .ok (.getfield 141, 3) := by decide +kernel
theorem dX9_next_79 : decode cX9_next 79 = .ok (.iaload, 1) := by decide +kernel
theorem dX9_next_8 : decode cX9_next 8 = .ok (.if_icmp .ge 44, 3) := by decide +kernel
theorem dX9_next_80 : decode cX9_next 80 = .ok (.goto 4, 3) := by decide +kernel
theorem dX9_next_83 : decode cX9_next 83 = .ok (.iconst (-1), 1) := by decide +kernel
theorem dX9_next_84 : decode cX9_next 84 = .ok (.ireturn, 1) := by decide +kernel
theorem dX9_sign_0 : decode cX9_sign 0 = .ok (.aload_n 0, 1) := by decide +kernel
theorem dX9_sign_1 : decode cX9_sign 1 = .ok (.invokevirtual 150, 3) := by decide +kernel
theorem dX9_sign_10 : decode cX9_sign 10 = .ok (.getfield 141, 3) := by decide +kernel
theorem dX9_sign_13 : decode cX9_sign 13 = .ok (.iconst 1, 1) := by decide +kernel
theorem dX9_sign_14 : decode cX9_sign 14 = .ok (.iadd, 1) := by decide +kernel
theorem dX9_sign_15 : decode cX9_sign 15 = .ok (.putfield 141, 3) := by decide +kernel
theorem dX9_sign_18 : decode cX9_sign 18 = .ok (.goto 12, 3) := by decide +kernel
theorem dX9_sign_21 : decode cX9_sign 21 = .ok (.aload_n 0, 1) := by decide +kernel
theorem dX9_sign_22 : decode cX9_sign 22 = .ok (.iconst 1, 1) := by decide +kernel
theorem dX9_sign_23 : decode cX9_sign 23 = .ok (.aload_n 0, 1) := by decide +kernel
theorem dX9_sign_24 : decode cX9_sign 24 = .ok (.getfield 141, 3) := by decide +kernel
theorem dX9_sign_27 : decode cX9_sign 27 = .ok (.invokevirtual 154, 3) := by decide +kernel
theorem dX9_sign_30 : decode cX9_sign 30 = .ok (.return_, 1) := by decide +kernel
theorem dX9_sign_4 : decode cX9_sign 4 = .ok (.iload_n 1, 1) := by decide +kernel
theorem dX9_sign_5 : decode cX9_sign 5 = .ok (.if_icmp .ne 16, 3) := by decide +kernel
theorem dX9_sign_8 : decode cX9_sign 8 = .ok (.aload_n 0, 1) := by decide +kernel
theorem dX9_sign_9 : decode cX9_sign 9 = .ok (.dup, 1) := by decide +kernel
theorem dX9_takes_0 : decode cX9_takes 0 = .ok (.aload_n 0, 1) := by decide +kernel
theorem dX9_takes_1 : decode cX9_takes 1 = .ok (.getfield 141, 3) := by decide +kernel
theorem dX9_takes_11 : decode cX9_takes 11 = .ok (.aload_n 0, 1) := by decide +kernel
theorem dX9_takes_12 : decode cX9_takes 12 = .ok (.iconst 1, 1) := by decide +kernel
theorem dX9_takes_13 : decode cX9_takes 13 = .ok (.aload_n 0, 1) := by decide +kernel
theorem dX9_takes_14 : decode cX9_takes 14 = .ok (.getfield 141, 3) := by decide +kernel
theorem dX9_takes_17 : decode cX9_takes 17 = .ok (.invokevirtual 154, 3) := by decide +kernel
theorem dX9_takes_20 : decode cX9_takes 20 = .ok (.aload_n 0, 1) := by decide +kernel
theorem dX9_takes_21 : decode cX9_takes 21 = .ok (.aload_n 0, 1) := by decide +kernel
theorem dX9_takes_22 : decode cX9_takes 22 = .ok (.invokevirtual 172, 3) := by decide +kernel
theorem dX9_takes_25 : decode cX9_takes 25 = .ok (.putfield 141, 3) := by decide +kernel
theorem dX9_takes_28 : decode cX9_takes 28 = .ok (.aload_n 0, 1) := by decide +kernel
theorem dX9_takes_29 : decode cX9_takes 29 = .ok (.aload_n 0, 1) := by decide +kernel
theorem dX9_takes_30 : decode cX9_takes 30 = .ok (.getfield 141, 3) := by decide +kernel
theorem dX9_takes_33 : decode cX9_takes 33 = .ok (.putfield 162, 3) := by decide +kernel
theorem dX9_takes_36 : decode cX9_takes 36 = .ok (.return_, 1) := by decide +kernel
theorem dX9_takes_4 : decode cX9_takes 4 = .ok (.aload_n 0, 1) := by decide +kernel
theorem dX9_takes_5 : decode cX9_takes 5 = .ok (.getfield 162, 3) := by decide +kernel
theorem dX9_takes_8 : decode cX9_takes 8 = .ok (.if_icmp .ne 12, 3) := by decide +kernel
theorem dX9_wordEnd_0 : decode cX9_wordEnd 0 = .ok (.aload_n 0, 1) := by decide +kernel
theorem dX9_wordEnd_1 : decode cX9_wordEnd 1 = .ok (.getfield 141, 3) := by decide +kernel
theorem dX9_wordEnd_10 : decode cX9_wordEnd 10 = .ok (.if_icmp .ge 21, 3) := by decide +kernel
theorem dX9_wordEnd_13 : decode cX9_wordEnd 13 = .ok (.aload_n 0, 1) := by decide +kernel
theorem dX9_wordEnd_14 : decode cX9_wordEnd 14 = .ok (.getfield 39, 3) := by decide +kernel
theorem dX9_wordEnd_17 : decode cX9_wordEnd 17 = .ok (.iload_n 1, 1) := by decide +kernel
theorem dX9_wordEnd_18 : decode cX9_wordEnd 18 = .ok (.iaload, 1) := by decide +kernel
theorem dX9_wordEnd_19 : decode cX9_wordEnd 19 = .ok (.invokestatic 165, 3) := by decide +kernel
theorem dX9_wordEnd_22 : decode cX9_wordEnd 22 = .ok (.ifCond .eq 9, 3) := by decide +kernel
theorem dX9_wordEnd_25 : decode cX9_wordEnd 25 = .ok (.iinc 1 1, 3) := by decide +kernel
theorem dX9_wordEnd_28 : decode cX9_wordEnd 28 = .ok (.goto (-23), 3) := by decide +kernel
theorem dX9_wordEnd_31 : decode cX9_wordEnd 31 = .ok (.iload_n 1, 1) := by decide +kernel
theorem dX9_wordEnd_32 : decode cX9_wordEnd 32 = .ok (.ireturn, 1) := by decide +kernel
theorem dX9_wordEnd_4 : decode cX9_wordEnd 4 = .ok (.istore_n 1, 1) := by decide +kernel
theorem dX9_wordEnd_5 : decode cX9_wordEnd 5 = .ok (.iload_n 1, 1) := by decide +kernel
theorem dX9_wordEnd_6 : decode cX9_wordEnd 6 = .ok (.aload_n 0, 1) := by decide +kernel
theorem dX9_wordEnd_7 : decode cX9_wordEnd 7 = .ok (.getfield 144, 3) := by decide +kernel
def wp_X9_isLetter : List Cond := .code yX9_isLetter cX9_isLetter 1 (some .boolean) :: ([])
set_option maxHeartbeats 4000000 in
set_option maxRecDepth 100000 in
theorem c_X9_isLetter (l : Launch) (dC : Nat → ClassId) (dI : Nat → Nat → Nat) (p0 : Int32) (sz : Nat) : Met l yX9_isLetter wp_X9_isLetter ({ frames := 0, cells := 0, slots := 0, locals := 0 }) (va_Pc [.int p0] (Pr (dC, dI) [] [] [] sz)) (va_Qi (fun r : Int32 => (fun _ : Unit => (isL p0 ∧ r = 1) ∨ (¬ isL p0 ∧ r = 0))) (Bq (dC, dI) (fun _ : Unit => []) (fun _ : Unit => []) (va_A [] sz)) (va_A [] sz)) 0 0 (va_A [] sz) := by
  refine Met.ofW (cc := cX9_isLetter) (maxL := 1) (ret := (some .boolean)) (by decide) rfl ?_
  intro p e s m args below meth c s₁ B hml hv
  obtain ⟨rfl, hsz, hP, hK, hD0, hN, hZ, hR⟩ := hv
  have hx := B.exec
  have hb := B.bytes
  have hr := B.returns
  have hts := atoms_spec (ws := wp_X9_isLetter) B.pre
  have hown : s.vm.findClass RX9 = some m.cls := findClass_of_methodNamed B.named
  have hlocks := B.notSynchronized
  subst hsz
  have hD := hD0.self (sz := s.heap.size)
  generalize hAe : va_A [] s.heap.size = A at hD hZ hR ⊢
  have hA : ∀ q : Nat, s.heap.size ≤ q → A q := fun q h => by rw [← hAe]; exact Or.inr h
  have hS : va_S A s.heap s.heap [] := va_S.rf
  have hP : va_P (dC, dI) vwCl [] s.heap := hP
  have hl := lv_entry ([.int p0]) (n := 1) (Nat.le_of_ble_eq_true rfl)
  rw [lg_entry_eq]
  generalize (lg_sl ([.int p0]) ++ List.replicate (1 - (lg_sl ([.int p0])).length) Slot.unset).toArray = ls at hl ⊢
  have hl : lv_has ls 1 [(0, .int p0)] := hl
  refine lv_iload_n hx hb dX9_isLetter_0 rfl (lv_at hl 0 rfl) ?_
  refine lv_bipush (v := 97) hx hb dX9_isLetter_1 (by decide) ?_
  refine lv_icmp_lt (tgt := 16) hx hb dX9_isLetter_3 (by decide) (fun c_1 => ?_) (fun c_1 => ?_)
  · refine lv_iconst (v := 0) hx hb dX9_isLetter_16 (by decide) ?_
    have hP9 := hP.sub (ws' := []) [] rfl
    have hD9 := hD.sub (ws' := []) [] (by decide) rfl
    have hK9 := hK.sub (tys' := []) [] rfl
    exact W.zret (v := 0) hx hb hr rfl (fun t ht hW => ⟨⟨0, (), rfl, Or.inr ⟨fun h => h.1 c_1, rfl⟩, by rw [ht]; exact hP9, va_K.moved hW.alike hK9, hD9⟩, hS.F ht⟩) hS.2.2 dX9_isLetter_17
  · refine lv_iload_n hx hb dX9_isLetter_6 rfl (lv_at hl 0 rfl) ?_
    refine lv_bipush (v := 122) hx hb dX9_isLetter_7 (by decide) ?_
    refine lv_icmp_gt (tgt := 16) hx hb dX9_isLetter_9 (by decide) (fun c_2 => ?_) (fun c_2 => ?_)
    · refine lv_iconst (v := 0) hx hb dX9_isLetter_16 (by decide) ?_
      have hP9 := hP.sub (ws' := []) [] rfl
      have hD9 := hD.sub (ws' := []) [] (by decide) rfl
      have hK9 := hK.sub (tys' := []) [] rfl
      exact W.zret (v := 0) hx hb hr rfl (fun t ht hW => ⟨⟨0, (), rfl, Or.inr ⟨fun h => h.2 c_2, rfl⟩, by rw [ht]; exact hP9, va_K.moved hW.alike hK9, hD9⟩, hS.F ht⟩) hS.2.2 dX9_isLetter_17
    · refine lv_iconst (v := 1) hx hb dX9_isLetter_12 (by decide) ?_
      refine lv_goto (tgt := 17) hx hb dX9_isLetter_13 (by decide) ?_
      have hP9 := hP.sub (ws' := []) [] rfl
      have hD9 := hD.sub (ws' := []) [] (by decide) rfl
      have hK9 := hK.sub (tys' := []) [] rfl
      exact W.zret (v := 1) hx hb hr rfl (fun t ht hW => ⟨⟨1, (), rfl, Or.inl ⟨⟨c_1, c_2⟩, rfl⟩, by rw [ht]; exact hP9, va_K.moved hW.alike hK9, hD9⟩, hS.F ht⟩) hS.2.2 dX9_isLetter_17
def wp_X9_isDigit : List Cond := .code yX9_isDigit cX9_isDigit 1 (some .boolean) :: ([])
set_option maxHeartbeats 4000000 in
set_option maxRecDepth 100000 in
theorem c_X9_isDigit (l : Launch) (dC : Nat → ClassId) (dI : Nat → Nat → Nat) (p0 : Int32) (sz : Nat) : Met l yX9_isDigit wp_X9_isDigit ({ frames := 0, cells := 0, slots := 0, locals := 0 }) (va_Pc [.int p0] (Pr (dC, dI) [] [] [] sz)) (va_Qi (fun r : Int32 => (fun _ : Unit => (isD p0 ∧ r = 1) ∨ (¬ isD p0 ∧ r = 0))) (Bq (dC, dI) (fun _ : Unit => []) (fun _ : Unit => []) (va_A [] sz)) (va_A [] sz)) 0 0 (va_A [] sz) := by
  refine Met.ofW (cc := cX9_isDigit) (maxL := 1) (ret := (some .boolean)) (by decide) rfl ?_
  intro p e s m args below meth c s₁ B hml hv
  obtain ⟨rfl, hsz, hP, hK, hD0, hN, hZ, hR⟩ := hv
  have hx := B.exec
  have hb := B.bytes
  have hr := B.returns
  have hts := atoms_spec (ws := wp_X9_isDigit) B.pre
  have hown : s.vm.findClass RX9 = some m.cls := findClass_of_methodNamed B.named
  have hlocks := B.notSynchronized
  subst hsz
  have hD := hD0.self (sz := s.heap.size)
  generalize hAe : va_A [] s.heap.size = A at hD hZ hR ⊢
  have hA : ∀ q : Nat, s.heap.size ≤ q → A q := fun q h => by rw [← hAe]; exact Or.inr h
  have hS : va_S A s.heap s.heap [] := va_S.rf
  have hP : va_P (dC, dI) vwCl [] s.heap := hP
  have hl := lv_entry ([.int p0]) (n := 1) (Nat.le_of_ble_eq_true rfl)
  rw [lg_entry_eq]
  generalize (lg_sl ([.int p0]) ++ List.replicate (1 - (lg_sl ([.int p0])).length) Slot.unset).toArray = ls at hl ⊢
  have hl : lv_has ls 1 [(0, .int p0)] := hl
  refine lv_iload_n hx hb dX9_isDigit_0 rfl (lv_at hl 0 rfl) ?_
  refine lv_bipush (v := 48) hx hb dX9_isDigit_1 (by decide) ?_
  refine lv_icmp_lt (tgt := 16) hx hb dX9_isDigit_3 (by decide) (fun c_1 => ?_) (fun c_1 => ?_)
  · refine lv_iconst (v := 0) hx hb dX9_isDigit_16 (by decide) ?_
    have hP9 := hP.sub (ws' := []) [] rfl
    have hD9 := hD.sub (ws' := []) [] (by decide) rfl
    have hK9 := hK.sub (tys' := []) [] rfl
    exact W.zret (v := 0) hx hb hr rfl (fun t ht hW => ⟨⟨0, (), rfl, Or.inr ⟨fun h => h.1 c_1, rfl⟩, by rw [ht]; exact hP9, va_K.moved hW.alike hK9, hD9⟩, hS.F ht⟩) hS.2.2 dX9_isDigit_17
  · refine lv_iload_n hx hb dX9_isDigit_6 rfl (lv_at hl 0 rfl) ?_
    refine lv_bipush (v := 57) hx hb dX9_isDigit_7 (by decide) ?_
    refine lv_icmp_gt (tgt := 16) hx hb dX9_isDigit_9 (by decide) (fun c_2 => ?_) (fun c_2 => ?_)
    · refine lv_iconst (v := 0) hx hb dX9_isDigit_16 (by decide) ?_
      have hP9 := hP.sub (ws' := []) [] rfl
      have hD9 := hD.sub (ws' := []) [] (by decide) rfl
      have hK9 := hK.sub (tys' := []) [] rfl
      exact W.zret (v := 0) hx hb hr rfl (fun t ht hW => ⟨⟨0, (), rfl, Or.inr ⟨fun h => h.2 c_2, rfl⟩, by rw [ht]; exact hP9, va_K.moved hW.alike hK9, hD9⟩, hS.F ht⟩) hS.2.2 dX9_isDigit_17
    · refine lv_iconst (v := 1) hx hb dX9_isDigit_12 (by decide) ?_
      refine lv_goto (tgt := 17) hx hb dX9_isDigit_13 (by decide) ?_
      have hP9 := hP.sub (ws' := []) [] rfl
      have hD9 := hD.sub (ws' := []) [] (by decide) rfl
      have hK9 := hK.sub (tys' := []) [] rfl
      exact W.zret (v := 1) hx hb hr rfl (fun t ht hW => ⟨⟨1, (), rfl, Or.inl ⟨⟨c_1, c_2⟩, rfl⟩, by rw [ht]; exact hP9, va_K.moved hW.alike hK9, hD9⟩, hS.F ht⟩) hS.2.2 dX9_isDigit_17
def wp_X9_fail : List Cond := .code yX9_fail cX9_fail 3 none :: ([.fieldLink RX9 135 "RecordBenchModel" "bad" "I", .fieldLink RX9 138 "RecordBenchModel" "badPlace" "I"] ++ wsX90)
set_option maxHeartbeats 4000000 in
set_option maxRecDepth 100000 in
theorem c_X9_fail (l : Launch) (dC : Nat → ClassId) (dI : Nat → Nat → Nat) (h0 : Nat) (g : Nat → Value) (b0 : Int32) (fh13 : g 13 = .int b0) (p0 : Int32) (p1 : Int32) (hp : p0 ≠ 0) (sz : Nat) : Met l yX9_fail wp_X9_fail ({ frames := 0, cells := 0, slots := 0, locals := 0 }) (va_Pc [.ref h0, .int p0, .int p1] (Pr (dC, dI) [] [] [(h0, .inr (11, mo g))] sz)) (va_Qv (fun (u : (Nat → Value) × Int32) => match u with | (g1, b1) => (b1 ≠ 0) ∧ (g1 13 = .int b1) ∧ (∀ j : Nat, j ≠ 13 → j ≠ 14 → g1 j = g j)) (Bq (dC, dI) (fun (u : (Nat → Value) × Int32) => match u with | (g1, b1) => [(h0, .inr (11, mo g1))]) (fun (u : (Nat → Value) × Int32) => match u with | (g1, b1) => []) (va_A [(h0, .inr (11, mo g))] sz)) (va_A [(h0, .inr (11, mo g))] sz)) 0 0 (va_A [(h0, .inr (11, mo g))] sz) := by
  refine Met.ofW (cc := cX9_fail) (maxL := 3) (ret := none) (by decide) rfl ?_
  intro p e s m args below meth c s₁ B hml hv
  obtain ⟨rfl, hsz, hP, hK, hD0, hN, hZ, hR⟩ := hv
  have hx := B.exec
  have hb := B.bytes
  have hr := B.returns
  have hts := atoms_spec (ws := wp_X9_fail) B.pre
  have hown : s.vm.findClass RX9 = some m.cls := findClass_of_methodNamed B.named
  have hlocks := B.notSynchronized
  have iRX9 : ∀ w ∈ u_ws RX9 TX9 60, w ∈ wp_X9_fail := by decide +kernel
  subst hsz
  have hD := hD0.self (sz := s.heap.size)
  generalize hAe : va_A [(h0, .inr (11, mo g))] s.heap.size = A at hD hZ hR ⊢
  have hA : ∀ q : Nat, s.heap.size ≤ q → A q := fun q h => by rw [← hAe]; exact Or.inr h
  have hS : va_S A s.heap s.heap [] := va_S.rf
  have hP : va_P (dC, dI) vwCl [(h0, .inr (11, mo g))] s.heap := hP
  have hl := lv_entry ([.ref h0, .int p0, .int p1]) (n := 3) (Nat.le_of_ble_eq_true rfl)
  rw [lg_entry_eq]
  generalize (lg_sl ([.ref h0, .int p0, .int p1]) ++ List.replicate (3 - (lg_sl ([.ref h0, .int p0, .int p1])).length) Slot.unset).toArray = ls at hl ⊢
  have hl : lv_has ls 3 [(0, .ref h0), (1, .int p0), (2, .int p1)] := hl
  refine lv_aload_n hx hb dX9_fail_0 rfl (lv_at hl 0 rfl) ?_
  refine va_get (D := (dC, dI)) (ci := 11) (v := .int b0) (C := RX9) (T := TX9) (N := 60) hx hb hts iRX9 hown hK hP 0 rfl rfl 13 (by decide) (hts (.fieldLink RX9 135 "RecordBenchModel" "bad" "I") (by decide +kernel)) (fun _ h9 => h9) ((mo_get g (by decide)).trans (congrArg some fh13)) dX9_fail_1 ?_
  refine lv_if_eq (tgt := 8) hx hb dX9_fail_4 (by decide) (fun c_1 => ?_) (fun c_1 => ?_)
  · refine lv_aload_n hx hb dX9_fail_8 rfl (lv_at hl 0 rfl) ?_
    refine lv_iload_n hx hb dX9_fail_9 rfl (lv_at hl 1 rfl) ?_
    refine va_put (D := (dC, dI)) (ci := 11) (v := .int p0) (ty := .int) (C := RX9) (T := TX9) (N := 60) hx hb hts iRX9 tyX9 tyX9_ok nmX9 hown hK hP hD hS 0 rfl rfl 13 (by decide) (hts (.fieldLink RX9 135 "RecordBenchModel" "bad" "I") (by decide +kernel)) (fun _ h9 => h9) rfl (by decide +kernel) rfl rfl (by rw [mo_len]; decide) dX9_fail_10 (fun H locs hP hD hS => ?_)
    obtain ⟨g_2, eg_2⟩ : ∃ y, y = va_up g 13 (.int p0) := ⟨_, rfl⟩
    have hP : va_P (dC, dI) vwCl [(h0, .inr (11, mo g_2))] H := by rw [eg_2, ← mo_set g (by decide)]; exact hP
    have hD : va_D A [(h0, .inr (11, mo g_2))] := by rw [eg_2, ← mo_set g (by decide)]; exact hD
    have g_2h13 : g_2 13 = .int p0 := by rw [eg_2, va_up_self]
    have ung_2 : ∀ j : Nat, j ≠ 13 → g_2 j = g j := fun j h13 => by rw [eg_2, va_up_ne _ _ h13]
    refine lv_aload_n hx hb dX9_fail_13 rfl (lv_at hl 0 rfl) ?_
    refine lv_iload_n hx hb dX9_fail_14 rfl (lv_at hl 2 rfl) ?_
    refine va_put (D := (dC, dI)) (ci := 11) (v := .int p1) (ty := .int) (C := RX9) (T := TX9) (N := 60) hx hb hts iRX9 tyX9 tyX9_ok nmX9 hown hK hP hD hS 0 rfl rfl 14 (by decide) (hts (.fieldLink RX9 138 "RecordBenchModel" "badPlace" "I") (by decide +kernel)) (fun _ h9 => h9) rfl (by decide +kernel) rfl rfl (by rw [mo_len]; decide) dX9_fail_15 (fun H locs hP hD hS => ?_)
    obtain ⟨g_3, eg_3⟩ : ∃ y, y = va_up g_2 14 (.int p1) := ⟨_, rfl⟩
    have hP : va_P (dC, dI) vwCl [(h0, .inr (11, mo g_3))] H := by rw [eg_3, ← mo_set g_2 (by decide)]; exact hP
    have hD : va_D A [(h0, .inr (11, mo g_3))] := by rw [eg_3, ← mo_set g_2 (by decide)]; exact hD
    have g_3h13 : g_3 13 = .int p0 := by rw [eg_3, va_up_ne _ _ (by decide)]; exact g_2h13
    have g_3h14 : g_3 14 = .int p1 := by rw [eg_3, va_up_self]
    have ung_3 : ∀ j : Nat, j ≠ 13 → j ≠ 14 → g_3 j = g j := fun j h13 h14 => by rw [eg_3, va_up_ne _ _ h14]; exact ung_2 j h13
    have hP9 := hP.sub (ws' := [(h0, .inr (11, mo g_3))]) [0] rfl
    have hD9 := hD.sub (ws' := [(h0, .inr (11, mo g_3))]) [0] (by decide) rfl
    have hK9 := hK.sub (tys' := []) [] rfl
    exact W.vret hx hb hr (fun t ht hW => ⟨⟨(g_3, p0), rfl, ⟨hp, g_3h13, (fun j h13 h14 => ung_3 j h13 h14)⟩, by rw [ht]; exact hP9, va_K.moved hW.alike hK9, hD9⟩, hS.F ht⟩) hS.2.2 dX9_fail_18
  · have hP9 := hP.sub (ws' := [(h0, .inr (11, mo g))]) [0] rfl
    have hD9 := hD.sub (ws' := [(h0, .inr (11, mo g))]) [0] (by decide) rfl
    have hK9 := hK.sub (tys' := []) [] rfl
    exact W.vret hx hb hr (fun t ht hW => ⟨⟨(g, b0), rfl, ⟨c_1, fh13, (fun j h13 h14 => rfl)⟩, by rw [ht]; exact hP9, va_K.moved hW.alike hK9, hD9⟩, hS.F ht⟩) hS.2.2 dX9_fail_7
def wp_X9_next : List Cond := .code yX9_next cX9_next 1 (some .int) :: ([.fieldLink RX9 141 "RecordBenchModel" "at" "I", .fieldLink RX9 144 "RecordBenchModel" "size" "I", .fieldLink RX9 147 "RecordBenchModel" "begun" "I", .fieldLink RX9 39 "RecordBenchModel" "tape" "[I"] ++ wsX90)
set_option maxHeartbeats 4000000 in
set_option maxRecDepth 100000 in
theorem c_X9_next (l : Launch) (dC : Nat → ClassId) (dI : Nat → Nat → Nat) (h0 : Nat) (g : Nat → Value) (a9 : Nat) (cT : ClassId) (f : Nat → Int32) (j : Nat) (n : Nat) (fh9 : g 9 = .ref a9) (fh11 : g 11 = .int (nI j)) (fh12 : g 12 = .int (nI n)) (hj : j ≤ n) (hn : n ≤ 400) (sz : Nat) : Met l yX9_next wp_X9_next ({ frames := 0, cells := 0, slots := 0, locals := 0 }) (va_Pc [.ref h0] (Pr (dC, dI) [(cT, .int)] [] [(h0, .inr (11, mo g)), (a9, .inl (cT, 400, .inl f))] sz)) (va_Qi (fun r : Int32 => (fun (g1 : Nat → Value) => (r = tat f n (tsk f n j)) ∧ (g1 11 = .int (nI (tsk f n j))) ∧ (g1 17 = .int (nI (tsk f n j))) ∧ (∀ j : Nat, j ≠ 11 → j ≠ 17 → g1 j = g j))) (Bq (dC, dI) (fun (g1 : Nat → Value) => [(h0, .inr (11, mo g1)), (a9, .inl (cT, 400, .inl f))]) (fun (g1 : Nat → Value) => []) (va_A [(h0, .inr (11, mo g)), (a9, .inl (cT, 400, .inl f))] sz)) (va_A [(h0, .inr (11, mo g)), (a9, .inl (cT, 400, .inl f))] sz)) 0 0 (va_A [(h0, .inr (11, mo g)), (a9, .inl (cT, 400, .inl f))] sz) := by
  refine Met.ofW (cc := cX9_next) (maxL := 1) (ret := (some .int)) (by decide) rfl ?_
  intro p e s m args below meth c s₁ B hml hv
  obtain ⟨rfl, hsz, hP, hK, hD0, hN, hZ, hR⟩ := hv
  have hx := B.exec
  have hb := B.bytes
  have hr := B.returns
  have hts := atoms_spec (ws := wp_X9_next) B.pre
  have hown : s.vm.findClass RX9 = some m.cls := findClass_of_methodNamed B.named
  have hlocks := B.notSynchronized
  have iRX9 : ∀ w ∈ u_ws RX9 TX9 60, w ∈ wp_X9_next := by decide +kernel
  subst hsz
  have hD := hD0.self (sz := s.heap.size)
  generalize hAe : va_A [(h0, .inr (11, mo g)), (a9, .inl (cT, 400, .inl f))] s.heap.size = A at hD hZ hR ⊢
  have hA : ∀ q : Nat, s.heap.size ≤ q → A q := fun q h => by rw [← hAe]; exact Or.inr h
  have hS : va_S A s.heap s.heap [] := va_S.rf
  have hP : va_P (dC, dI) vwCl [(h0, .inr (11, mo g)), (a9, .inl (cT, 400, .inl f))] s.heap := hP
  have hl := lv_entry ([.ref h0]) (n := 1) (Nat.le_of_ble_eq_true rfl)
  rw [lg_entry_eq]
  generalize (lg_sl ([.ref h0]) ++ List.replicate (1 - (lg_sl ([.ref h0])).length) Slot.unset).toArray = ls at hl ⊢
  have hl : lv_has ls 1 [(0, .ref h0)] := hl
  refine W_loop (σ := Nat × (Nat → Value)) (D := (dC, dI)) (A := A) [] (fun (u : Nat × (Nat → Value)) => match u with | (i, g2) => [(0, .ref h0)]) (fun (u : Nat × (Nat → Value)) => match u with | (i, g2) => [(h0, .inr (11, mo g2)), (a9, .inl (cT, 400, .inl f))]) (fun (u : Nat × (Nat → Value)) => match u with | (i, g2) => (i ≤ n) ∧ (tsk f n i = tsk f n j) ∧ (g2 9 = .ref a9) ∧ (g2 11 = .int (nI i)) ∧ (g2 12 = .int (nI n)) ∧ (∀ k : Nat, k ≠ 11 → g2 k = g k)) (fun (u : Nat × (Nat → Value)) => match u with | (i, g2) => n - i) ?_ (j, g) ⟨hj, rfl, fh9, fh11, fh12, (fun _ _ => rfl)⟩ _ _ _ (hP.sub (ws' := [(h0, .inr (11, mo g)), (a9, .inl (cT, 400, .inl f))]) [0, 1] rfl) (hD.sub (ws' := [(h0, .inr (11, mo g)), (a9, .inl (cT, 400, .inl f))]) [0, 1] (by decide) rfl) hS (lv_sub hl [0] rfl)
  intro u hI H locs ls hP hD hS hl ih
  obtain ⟨i, g2⟩ := u
  try dsimp only at hI
  obtain ⟨hi, hsk, h9, h11, h12, hun⟩ := hI
  have hP : va_P (dC, dI) vwCl [(h0, .inr (11, mo g2)), (a9, .inl (cT, 400, .inl f))] H := hP
  have hD : va_D A [(h0, .inr (11, mo g2)), (a9, .inl (cT, 400, .inl f))] := hD
  have hl : lv_has ls 1 [(0, .ref h0)] := hl
  refine lv_aload_n hx hb dX9_next_0 rfl (lv_at hl 0 rfl) ?_
  refine va_get (D := (dC, dI)) (ci := 11) (v := .int (nI i)) (C := RX9) (T := TX9) (N := 60) hx hb hts iRX9 hown hK hP 0 rfl rfl 11 (by decide) (hts (.fieldLink RX9 141 "RecordBenchModel" "at" "I") (by decide +kernel)) (fun _ h9 => h9) ((mo_get g2 (by decide)).trans (congrArg some h11)) dX9_next_1 ?_
  refine lv_aload_n hx hb dX9_next_4 rfl (lv_at hl 0 rfl) ?_
  refine va_get (D := (dC, dI)) (ci := 11) (v := .int (nI n)) (C := RX9) (T := TX9) (N := 60) hx hb hts iRX9 hown hK hP 0 rfl rfl 12 (by decide) (hts (.fieldLink RX9 144 "RecordBenchModel" "size" "I") (by decide +kernel)) (fun _ h9 => h9) ((mo_get g2 (by decide)).trans (congrArg some h12)) dX9_next_5 ?_
  refine lv_icmp_ge (tgt := 52) hx hb dX9_next_8 (by decide) (fun c_1 => ?_) (fun c_1 => ?_)
  · have hge : n ≤ i := nI_leN (by omega) (by omega) c_1
    have hjj : tsk f n j = i := hsk.symm.trans (tsk_no (fun h => absurd h.1 (by omega)))
    refine lv_aload_n hx hb dX9_next_52 rfl (lv_at hl 0 rfl) ?_
    refine lv_aload_n hx hb dX9_next_53 rfl (lv_at hl 0 rfl) ?_
    refine va_get (D := (dC, dI)) (ci := 11) (v := .int (nI i)) (C := RX9) (T := TX9) (N := 60) hx hb hts iRX9 hown hK hP 0 rfl rfl 11 (by decide) (hts (.fieldLink RX9 141 "RecordBenchModel" "at" "I") (by decide +kernel)) (fun _ h9 => h9) ((mo_get g2 (by decide)).trans (congrArg some h11)) dX9_next_54 ?_
    refine va_put (D := (dC, dI)) (ci := 11) (v := .int (nI i)) (ty := .int) (C := RX9) (T := TX9) (N := 60) hx hb hts iRX9 tyX9 tyX9_ok nmX9 hown hK hP hD hS 0 rfl rfl 17 (by decide) (hts (.fieldLink RX9 147 "RecordBenchModel" "begun" "I") (by decide +kernel)) (fun _ h9 => h9) rfl (by decide +kernel) rfl rfl (by rw [mo_len]; decide) dX9_next_57 (fun H locs hP hD hS => ?_)
    obtain ⟨g_2, eg_2⟩ : ∃ y, y = va_up g2 17 (.int (nI i)) := ⟨_, rfl⟩
    have hP : va_P (dC, dI) vwCl [(h0, .inr (11, mo g_2)), (a9, .inl (cT, 400, .inl f))] H := by rw [eg_2, ← mo_set g2 (by decide)]; exact hP
    have hD : va_D A [(h0, .inr (11, mo g_2)), (a9, .inl (cT, 400, .inl f))] := by rw [eg_2, ← mo_set g2 (by decide)]; exact hD
    have g_2h9 : g_2 9 = .ref a9 := by rw [eg_2, va_up_ne _ _ (by decide)]; exact h9
    have g_2h11 : g_2 11 = .int (nI i) := by rw [eg_2, va_up_ne _ _ (by decide)]; exact h11
    have g_2h12 : g_2 12 = .int (nI n) := by rw [eg_2, va_up_ne _ _ (by decide)]; exact h12
    have g_2h17 : g_2 17 = .int (nI i) := by rw [eg_2, va_up_self]
    have ung_2 : ∀ j : Nat, j ≠ 11 → j ≠ 17 → g_2 j = g j := fun j h11 h17 => by rw [eg_2, va_up_ne _ _ h17]; exact hun j h11
    refine lv_aload_n hx hb dX9_next_60 rfl (lv_at hl 0 rfl) ?_
    refine va_get (D := (dC, dI)) (ci := 11) (v := .int (nI i)) (C := RX9) (T := TX9) (N := 60) hx hb hts iRX9 hown hK hP 0 rfl rfl 11 (by decide) (hts (.fieldLink RX9 141 "RecordBenchModel" "at" "I") (by decide +kernel)) (fun _ h9 => h9) ((mo_get g_2 (by decide)).trans (congrArg some g_2h11)) dX9_next_61 ?_
    refine lv_aload_n hx hb dX9_next_64 rfl (lv_at hl 0 rfl) ?_
    refine va_get (D := (dC, dI)) (ci := 11) (v := .int (nI n)) (C := RX9) (T := TX9) (N := 60) hx hb hts iRX9 hown hK hP 0 rfl rfl 12 (by decide) (hts (.fieldLink RX9 144 "RecordBenchModel" "size" "I") (by decide +kernel)) (fun _ h9 => h9) ((mo_get g_2 (by decide)).trans (congrArg some g_2h12)) dX9_next_65 ?_
    refine lv_icmp_ge (tgt := 83) hx hb dX9_next_68 (by decide) (fun c_3 => ?_) (fun c_3 => absurd (nI_le hge (by omega)) c_3)
    refine lv_iconst (v := (-1)) hx hb dX9_next_83 (by decide) ?_
    have hP9 := hP.sub (ws' := [(h0, .inr (11, mo g_2)), (a9, .inl (cT, 400, .inl f))]) [0, 1] rfl
    have hD9 := hD.sub (ws' := [(h0, .inr (11, mo g_2)), (a9, .inl (cT, 400, .inl f))]) [0, 1] (by decide) rfl
    have hK9 := hK.sub (tys' := []) [] rfl
    exact W.iret (v := (-1)) hx hb hr (fun t ht hW => ⟨⟨(-1), g_2, rfl, ⟨by rw [hjj, tat_no (by omega)], (g_2h11.trans (by rw [hjj])), (g_2h17.trans (by rw [hjj])), (fun j h11 h17 => ung_2 j h11 h17)⟩, by rw [ht]; exact hP9, va_K.moved hW.alike hK9, hD9⟩, hS.F ht⟩) hS.2.2 dX9_next_84
  · have hlt : i < n := nI_ltN (by omega) (by omega) c_1
    refine lv_aload_n hx hb dX9_next_11 rfl (lv_at hl 0 rfl) ?_
    refine va_get (D := (dC, dI)) (ci := 11) (v := .ref a9) (C := RX9) (T := TX9) (N := 60) hx hb hts iRX9 hown hK hP 0 rfl rfl 9 (by decide) (hts (.fieldLink RX9 39 "RecordBenchModel" "tape" "[I") (by decide +kernel)) (fun _ h9 => h9) ((mo_get g2 (by decide)).trans (congrArg some h9)) dX9_next_12 ?_
    refine lv_aload_n hx hb dX9_next_15 rfl (lv_at hl 0 rfl) ?_
    refine va_get (D := (dC, dI)) (ci := 11) (v := .int (nI i)) (C := RX9) (T := TX9) (N := 60) hx hb hts iRX9 hown hK hP 0 rfl rfl 11 (by decide) (hts (.fieldLink RX9 141 "RecordBenchModel" "at" "I") (by decide +kernel)) (fun _ h9 => h9) ((mo_get g2 (by decide)).trans (congrArg some h11)) dX9_next_16 ?_
    refine va_iald hx hb hK hP 1 0 rfl rfl (vp_in_nI (by omega) (by decide)) dX9_next_19 ?_
    refine W_toi (y := f i) (by rw [nI_clamp (by omega)]) ?_
    refine lv_bipush (v := 10) hx hb dX9_next_20 (by decide) ?_
    refine lv_icmp_eq (tgt := 39) hx hb dX9_next_22 (by decide) (fun c_4 => ?_) (fun c_4 => ?_)
    · refine lv_aload_n hx hb dX9_next_39 rfl (lv_at hl 0 rfl) ?_
      refine lv_dup hx hb dX9_next_40 rfl ?_
      refine va_get (D := (dC, dI)) (ci := 11) (v := .int (nI i)) (C := RX9) (T := TX9) (N := 60) hx hb hts iRX9 hown hK hP 0 rfl rfl 11 (by decide) (hts (.fieldLink RX9 141 "RecordBenchModel" "at" "I") (by decide +kernel)) (fun _ h9 => h9) ((mo_get g2 (by decide)).trans (congrArg some h11)) dX9_next_41 ?_
      refine lv_iconst (v := 1) hx hb dX9_next_44 (by decide) ?_
      refine lv_iadd hx hb dX9_next_45 ?_
      refine W_toi (y := nI (i + 1)) (nI_1 i) ?_
      refine va_put (D := (dC, dI)) (ci := 11) (v := .int (nI (i + 1))) (ty := .int) (C := RX9) (T := TX9) (N := 60) hx hb hts iRX9 tyX9 tyX9_ok nmX9 hown hK hP hD hS 0 rfl rfl 11 (by decide) (hts (.fieldLink RX9 141 "RecordBenchModel" "at" "I") (by decide +kernel)) (fun _ h9 => h9) rfl (by decide +kernel) rfl rfl (by rw [mo_len]; decide) dX9_next_46 (fun H locs hP hD hS => ?_)
      obtain ⟨g_5, eg_5⟩ : ∃ y, y = va_up g2 11 (.int (nI (i + 1))) := ⟨_, rfl⟩
      have hP : va_P (dC, dI) vwCl [(h0, .inr (11, mo g_5)), (a9, .inl (cT, 400, .inl f))] H := by rw [eg_5, ← mo_set g2 (by decide)]; exact hP
      have hD : va_D A [(h0, .inr (11, mo g_5)), (a9, .inl (cT, 400, .inl f))] := by rw [eg_5, ← mo_set g2 (by decide)]; exact hD
      have g_5h9 : g_5 9 = .ref a9 := by rw [eg_5, va_up_ne _ _ (by decide)]; exact h9
      have g_5h12 : g_5 12 = .int (nI n) := by rw [eg_5, va_up_ne _ _ (by decide)]; exact h12
      have g_5h11 : g_5 11 = .int (nI (i + 1)) := by rw [eg_5, va_up_self]
      have ung_5 : ∀ j : Nat, j ≠ 11 → g_5 j = g j := fun j h11 => by rw [eg_5, va_up_ne _ _ h11]; exact hun j h11
      refine lv_goto (tgt := 0) hx hb dX9_next_49 (by decide) ?_
      exact ih ((i + 1), g_5) (by show n - (i + 1) < n - i; omega) ⟨(by omega), ((tsk_go hlt (Or.inl c_4)).symm.trans hsk), g_5h9, g_5h11, g_5h12, (fun k h => ung_5 k h)⟩ _ _ _ (hP.sub (ws' := [(h0, .inr (11, mo g_5)), (a9, .inl (cT, 400, .inl f))]) [0, 1] rfl) (hD.sub (ws' := [(h0, .inr (11, mo g_5)), (a9, .inl (cT, 400, .inl f))]) [0, 1] (by decide) rfl) hS (lv_sub hl [0] rfl)
    · refine lv_aload_n hx hb dX9_next_25 rfl (lv_at hl 0 rfl) ?_
      refine va_get (D := (dC, dI)) (ci := 11) (v := .ref a9) (C := RX9) (T := TX9) (N := 60) hx hb hts iRX9 hown hK hP 0 rfl rfl 9 (by decide) (hts (.fieldLink RX9 39 "RecordBenchModel" "tape" "[I") (by decide +kernel)) (fun _ h9 => h9) ((mo_get g2 (by decide)).trans (congrArg some h9)) dX9_next_26 ?_
      refine lv_aload_n hx hb dX9_next_29 rfl (lv_at hl 0 rfl) ?_
      refine va_get (D := (dC, dI)) (ci := 11) (v := .int (nI i)) (C := RX9) (T := TX9) (N := 60) hx hb hts iRX9 hown hK hP 0 rfl rfl 11 (by decide) (hts (.fieldLink RX9 141 "RecordBenchModel" "at" "I") (by decide +kernel)) (fun _ h9 => h9) ((mo_get g2 (by decide)).trans (congrArg some h11)) dX9_next_30 ?_
      refine va_iald hx hb hK hP 1 0 rfl rfl (vp_in_nI (by omega) (by decide)) dX9_next_33 ?_
      refine W_toi (y := f i) (by rw [nI_clamp (by omega)]) ?_
      refine lv_bipush (v := 32) hx hb dX9_next_34 (by decide) ?_
      refine lv_icmp_ne (tgt := 52) hx hb dX9_next_36 (by decide) (fun c_6 => ?_) (fun c_6 => ?_)
      · have hjj : tsk f n j = i := hsk.symm.trans (tsk_no (fun h => h.2.elim c_4 c_6))
        refine lv_aload_n hx hb dX9_next_52 rfl (lv_at hl 0 rfl) ?_
        refine lv_aload_n hx hb dX9_next_53 rfl (lv_at hl 0 rfl) ?_
        refine va_get (D := (dC, dI)) (ci := 11) (v := .int (nI i)) (C := RX9) (T := TX9) (N := 60) hx hb hts iRX9 hown hK hP 0 rfl rfl 11 (by decide) (hts (.fieldLink RX9 141 "RecordBenchModel" "at" "I") (by decide +kernel)) (fun _ h9 => h9) ((mo_get g2 (by decide)).trans (congrArg some h11)) dX9_next_54 ?_
        refine va_put (D := (dC, dI)) (ci := 11) (v := .int (nI i)) (ty := .int) (C := RX9) (T := TX9) (N := 60) hx hb hts iRX9 tyX9 tyX9_ok nmX9 hown hK hP hD hS 0 rfl rfl 17 (by decide) (hts (.fieldLink RX9 147 "RecordBenchModel" "begun" "I") (by decide +kernel)) (fun _ h9 => h9) rfl (by decide +kernel) rfl rfl (by rw [mo_len]; decide) dX9_next_57 (fun H locs hP hD hS => ?_)
        obtain ⟨g_7, eg_7⟩ : ∃ y, y = va_up g2 17 (.int (nI i)) := ⟨_, rfl⟩
        have hP : va_P (dC, dI) vwCl [(h0, .inr (11, mo g_7)), (a9, .inl (cT, 400, .inl f))] H := by rw [eg_7, ← mo_set g2 (by decide)]; exact hP
        have hD : va_D A [(h0, .inr (11, mo g_7)), (a9, .inl (cT, 400, .inl f))] := by rw [eg_7, ← mo_set g2 (by decide)]; exact hD
        have g_7h9 : g_7 9 = .ref a9 := by rw [eg_7, va_up_ne _ _ (by decide)]; exact h9
        have g_7h11 : g_7 11 = .int (nI i) := by rw [eg_7, va_up_ne _ _ (by decide)]; exact h11
        have g_7h12 : g_7 12 = .int (nI n) := by rw [eg_7, va_up_ne _ _ (by decide)]; exact h12
        have g_7h17 : g_7 17 = .int (nI i) := by rw [eg_7, va_up_self]
        have ung_7 : ∀ j : Nat, j ≠ 11 → j ≠ 17 → g_7 j = g j := fun j h11 h17 => by rw [eg_7, va_up_ne _ _ h17]; exact hun j h11
        refine lv_aload_n hx hb dX9_next_60 rfl (lv_at hl 0 rfl) ?_
        refine va_get (D := (dC, dI)) (ci := 11) (v := .int (nI i)) (C := RX9) (T := TX9) (N := 60) hx hb hts iRX9 hown hK hP 0 rfl rfl 11 (by decide) (hts (.fieldLink RX9 141 "RecordBenchModel" "at" "I") (by decide +kernel)) (fun _ h9 => h9) ((mo_get g_7 (by decide)).trans (congrArg some g_7h11)) dX9_next_61 ?_
        refine lv_aload_n hx hb dX9_next_64 rfl (lv_at hl 0 rfl) ?_
        refine va_get (D := (dC, dI)) (ci := 11) (v := .int (nI n)) (C := RX9) (T := TX9) (N := 60) hx hb hts iRX9 hown hK hP 0 rfl rfl 12 (by decide) (hts (.fieldLink RX9 144 "RecordBenchModel" "size" "I") (by decide +kernel)) (fun _ h9 => h9) ((mo_get g_7 (by decide)).trans (congrArg some g_7h12)) dX9_next_65 ?_
        refine lv_icmp_ge (tgt := 83) hx hb dX9_next_68 (by decide) (fun c_8 => absurd c_8 (fun h => absurd (nI_leN (by omega) (by omega) h) (by omega))) (fun c_8 => ?_)
        refine lv_aload_n hx hb dX9_next_71 rfl (lv_at hl 0 rfl) ?_
        refine va_get (D := (dC, dI)) (ci := 11) (v := .ref a9) (C := RX9) (T := TX9) (N := 60) hx hb hts iRX9 hown hK hP 0 rfl rfl 9 (by decide) (hts (.fieldLink RX9 39 "RecordBenchModel" "tape" "[I") (by decide +kernel)) (fun _ h9 => h9) ((mo_get g_7 (by decide)).trans (congrArg some g_7h9)) dX9_next_72 ?_
        refine lv_aload_n hx hb dX9_next_75 rfl (lv_at hl 0 rfl) ?_
        refine va_get (D := (dC, dI)) (ci := 11) (v := .int (nI i)) (C := RX9) (T := TX9) (N := 60) hx hb hts iRX9 hown hK hP 0 rfl rfl 11 (by decide) (hts (.fieldLink RX9 141 "RecordBenchModel" "at" "I") (by decide +kernel)) (fun _ h9 => h9) ((mo_get g_7 (by decide)).trans (congrArg some g_7h11)) dX9_next_76 ?_
        refine va_iald hx hb hK hP 1 0 rfl rfl (vp_in_nI (by omega) (by decide)) dX9_next_79 ?_
        refine W_toi (y := f i) (by rw [nI_clamp (by omega)]) ?_
        refine lv_goto (tgt := 84) hx hb dX9_next_80 (by decide) ?_
        have hP9 := hP.sub (ws' := [(h0, .inr (11, mo g_7)), (a9, .inl (cT, 400, .inl f))]) [0, 1] rfl
        have hD9 := hD.sub (ws' := [(h0, .inr (11, mo g_7)), (a9, .inl (cT, 400, .inl f))]) [0, 1] (by decide) rfl
        have hK9 := hK.sub (tys' := []) [] rfl
        exact W.iret (v := f i) hx hb hr (fun t ht hW => ⟨⟨f i, g_7, rfl, ⟨by rw [hjj, tat_at (by omega)], (g_7h11.trans (by rw [hjj])), (g_7h17.trans (by rw [hjj])), (fun j h11 h17 => ung_7 j h11 h17)⟩, by rw [ht]; exact hP9, va_K.moved hW.alike hK9, hD9⟩, hS.F ht⟩) hS.2.2 dX9_next_84
      · refine lv_aload_n hx hb dX9_next_39 rfl (lv_at hl 0 rfl) ?_
        refine lv_dup hx hb dX9_next_40 rfl ?_
        refine va_get (D := (dC, dI)) (ci := 11) (v := .int (nI i)) (C := RX9) (T := TX9) (N := 60) hx hb hts iRX9 hown hK hP 0 rfl rfl 11 (by decide) (hts (.fieldLink RX9 141 "RecordBenchModel" "at" "I") (by decide +kernel)) (fun _ h9 => h9) ((mo_get g2 (by decide)).trans (congrArg some h11)) dX9_next_41 ?_
        refine lv_iconst (v := 1) hx hb dX9_next_44 (by decide) ?_
        refine lv_iadd hx hb dX9_next_45 ?_
        refine W_toi (y := nI (i + 1)) (nI_1 i) ?_
        refine va_put (D := (dC, dI)) (ci := 11) (v := .int (nI (i + 1))) (ty := .int) (C := RX9) (T := TX9) (N := 60) hx hb hts iRX9 tyX9 tyX9_ok nmX9 hown hK hP hD hS 0 rfl rfl 11 (by decide) (hts (.fieldLink RX9 141 "RecordBenchModel" "at" "I") (by decide +kernel)) (fun _ h9 => h9) rfl (by decide +kernel) rfl rfl (by rw [mo_len]; decide) dX9_next_46 (fun H locs hP hD hS => ?_)
        obtain ⟨g_9, eg_9⟩ : ∃ y, y = va_up g2 11 (.int (nI (i + 1))) := ⟨_, rfl⟩
        have hP : va_P (dC, dI) vwCl [(h0, .inr (11, mo g_9)), (a9, .inl (cT, 400, .inl f))] H := by rw [eg_9, ← mo_set g2 (by decide)]; exact hP
        have hD : va_D A [(h0, .inr (11, mo g_9)), (a9, .inl (cT, 400, .inl f))] := by rw [eg_9, ← mo_set g2 (by decide)]; exact hD
        have g_9h9 : g_9 9 = .ref a9 := by rw [eg_9, va_up_ne _ _ (by decide)]; exact h9
        have g_9h12 : g_9 12 = .int (nI n) := by rw [eg_9, va_up_ne _ _ (by decide)]; exact h12
        have g_9h11 : g_9 11 = .int (nI (i + 1)) := by rw [eg_9, va_up_self]
        have ung_9 : ∀ j : Nat, j ≠ 11 → g_9 j = g j := fun j h11 => by rw [eg_9, va_up_ne _ _ h11]; exact hun j h11
        refine lv_goto (tgt := 0) hx hb dX9_next_49 (by decide) ?_
        exact ih ((i + 1), g_9) (by show n - (i + 1) < n - i; omega) ⟨(by omega), ((tsk_go hlt (Or.inr c_6)).symm.trans hsk), g_9h9, g_9h11, g_9h12, (fun k h => ung_9 k h)⟩ _ _ _ (hP.sub (ws' := [(h0, .inr (11, mo g_9)), (a9, .inl (cT, 400, .inl f))]) [0, 1] rfl) (hD.sub (ws' := [(h0, .inr (11, mo g_9)), (a9, .inl (cT, 400, .inl f))]) [0, 1] (by decide) rfl) hS (lv_sub hl [0] rfl)
def wp_X9_sign : List Cond := .code yX9_sign cX9_sign 2 none :: ([.methodLink RX9 150 yX9_next, .instanceMethod yX9_next, .selects RX9 yX9_next yX9_next, .initialized RX9, .fieldLink RX9 141 "RecordBenchModel" "at" "I", .methodLink RX9 154 yX9_fail, .instanceMethod yX9_fail, .selects RX9 yX9_fail yX9_fail, .code yX9_next cX9_next 1 (some .int), .fieldLink RX9 144 "RecordBenchModel" "size" "I", .fieldLink RX9 147 "RecordBenchModel" "begun" "I", .fieldLink RX9 39 "RecordBenchModel" "tape" "[I", .code yX9_fail cX9_fail 3 none, .fieldLink RX9 135 "RecordBenchModel" "bad" "I", .fieldLink RX9 138 "RecordBenchModel" "badPlace" "I"] ++ wsX90)
set_option maxRecDepth 20000 in
theorem gp_X9_sign_X9_next_150 : GoodIn wp_X9_sign (wsV RX9 150 RX9 yX9_next wp_X9_next) := goodIn_p _ [9] rfl (by decide +kernel)
set_option maxRecDepth 20000 in
theorem gp_X9_sign_X9_fail_154 : GoodIn wp_X9_sign (wsV RX9 154 RX9 yX9_fail wp_X9_fail) := goodIn_p _ [13] rfl (by decide +kernel)
set_option maxHeartbeats 4000000 in
set_option maxRecDepth 100000 in
theorem c_X9_sign (l : Launch) (dC : Nat → ClassId) (dI : Nat → Nat → Nat) (h0 : Nat) (g : Nat → Value) (a9 : Nat) (cT : ClassId) (f : Nat → Int32) (j : Nat) (n : Nat) (b0 : Int32) (fh9 : g 9 = .ref a9) (fh11 : g 11 = .int (nI j)) (fh12 : g 12 = .int (nI n)) (fh13 : g 13 = .int b0) (hj : j ≤ n) (hn : n ≤ 400) (p0 : Int32) (hp : p0 ≠ -1) (sz : Nat) : Met l yX9_sign wp_X9_sign ({ frames := 1, cells := 0, slots := 0, locals := 26 }) (va_Pc [.ref h0, .int p0] (Pr (dC, dI) [(cT, .int)] [] [(h0, .inr (11, mo g)), (a9, .inl (cT, 400, .inl f))] sz)) (va_Qv (fun (u : (Nat → Value) × Nat × Int32) => match u with | (g1, j1, b1) => ((tat f n (tsk f n j) = p0 ∧ tsk f n j < n ∧ j1 = tsk f n j + 1 ∧ b0 = b1) ∨ (tat f n (tsk f n j) ≠ p0 ∧ j1 = tsk f n j ∧ b1 ≠ 0)) ∧ (g1 11 = .int (nI j1)) ∧ (g1 13 = .int b1) ∧ (g1 17 = .int (nI (tsk f n j))) ∧ (∀ j : Nat, j ≠ 11 → j ≠ 13 → j ≠ 14 → j ≠ 17 → g1 j = g j)) (Bq (dC, dI) (fun (u : (Nat → Value) × Nat × Int32) => match u with | (g1, j1, b1) => [(h0, .inr (11, mo g1)), (a9, .inl (cT, 400, .inl f))]) (fun (u : (Nat → Value) × Nat × Int32) => match u with | (g1, j1, b1) => []) (va_A [(h0, .inr (11, mo g)), (a9, .inl (cT, 400, .inl f))] sz)) (va_A [(h0, .inr (11, mo g)), (a9, .inl (cT, 400, .inl f))] sz)) 0 0 (va_A [(h0, .inr (11, mo g)), (a9, .inl (cT, 400, .inl f))] sz) := by
  refine Met.ofW (cc := cX9_sign) (maxL := 2) (ret := none) (by decide) rfl ?_
  intro p e s m args below meth c s₁ B hml hv
  obtain ⟨rfl, hsz, hP, hK, hD0, hN, hZ, hR⟩ := hv
  have hx := B.exec
  have hb := B.bytes
  have hr := B.returns
  have hts := atoms_spec (ws := wp_X9_sign) B.pre
  have hown : s.vm.findClass RX9 = some m.cls := findClass_of_methodNamed B.named
  have hlocks := B.notSynchronized
  have iRX9 : ∀ w ∈ u_ws RX9 TX9 60, w ∈ wp_X9_sign := by decide +kernel
  subst hsz
  have hD := hD0.self (sz := s.heap.size)
  generalize hAe : va_A [(h0, .inr (11, mo g)), (a9, .inl (cT, 400, .inl f))] s.heap.size = A at hD hZ hR ⊢
  have hA : ∀ q : Nat, s.heap.size ≤ q → A q := fun q h => by rw [← hAe]; exact Or.inr h
  have hS : va_S A s.heap s.heap [] := va_S.rf
  have hP : va_P (dC, dI) vwCl [(h0, .inr (11, mo g)), (a9, .inl (cT, 400, .inl f))] s.heap := hP
  have hl := lv_entry ([.ref h0, .int p0]) (n := 2) (Nat.le_of_ble_eq_true rfl)
  rw [lg_entry_eq]
  generalize (lg_sl ([.ref h0, .int p0]) ++ List.replicate (2 - (lg_sl ([.ref h0, .int p0])).length) Slot.unset).toArray = ls at hl ⊢
  have hl : lv_has ls 2 [(0, .ref h0), (1, .int p0)] := hl
  refine lv_aload_n hx hb dX9_sign_0 rfl (lv_at hl 0 rfl) ?_
  have hFc := va_free (wc := [(h0, .inr (11, mo g)), (a9, .inl (cT, 400, .inl f))]) hD hS hA [0, 1] rfl
  refine va_calli (va_runV (As := []) (rest := []) ⟨hx, hb, hml, hown, hts⟩ (c_X9_next l dC dI h0 g a9 cT f j n fh9 fh11 fh12 (by omega) (by omega) s.heap.size) (cwV 0 hts gp_X9_sign_X9_next_150 rfl rfl rfl (by decide +kernel) ⟨Nat.le_of_ble_eq_true rfl, Nat.le_of_ble_eq_true rfl⟩) ⟨Pr.blind _, va_recv hK hP (ci := 11) (q0 := 0) rfl rfl, fun U hU hW => ⟨rfl, Pr.at (hP.sub (ws' := [(h0, .inr (11, mo g)), (a9, .inl (cT, 400, .inl f))]) [0, 1] rfl) (hK.sub (tys' := [(cT, .int)]) [0] rfl) (hD.sub (ws' := [(h0, .inr (11, mo g)), (a9, .inl (cT, 400, .inl f))]) [0, 1] (by decide) rfl) hN hZ RO.nil hS hFc hU hW⟩⟩ rfl rfl hl.1 rfl (lv_room (Nat.le_of_ble_eq_true rfl)) dX9_sign_1 ⟨Nat.le_of_ble_eq_true rfl, Nat.le_of_ble_eq_true rfl⟩) hS (fun q _ h => hFc q h) hFc (fun r_1 u t H1 locs ht hvm hw_2 hB hz1 hk1 hS => ?_)
  obtain ⟨g1_3, rfl⟩ : ∃ z, z = u := ⟨_, rfl⟩
  obtain ⟨hP, hD, hK⟩ := Bq.join (wr := []) hB ht hvm hP hD [0, 1] [] rfl rfl (by decide) (by decide) hk1 hFc hK
  generalize H1 = H at hP hS ⊢
  have hP : va_P (dC, dI) vwCl [(h0, .inr (11, mo g1_3)), (a9, .inl (cT, 400, .inl f))] H := hP
  have hD : va_D A [(h0, .inr (11, mo g1_3)), (a9, .inl (cT, 400, .inl f))] := hD
  have hK : va_K (dC, dI) vwCl [(cT, .int)] s := hK
  try dsimp only at hw_2
  obtain ⟨k_4, k_5, k_6, k_7⟩ := hw_2
  have w_8 : g1_3 9 = .ref a9 := (k_7 9 (by decide) (by decide)).trans fh9
  have w_9 : g1_3 12 = .int (nI n) := (k_7 12 (by decide) (by decide)).trans fh12
  have w_10 : g1_3 13 = .int b0 := (k_7 13 (by decide) (by decide)).trans fh13
  have un_11 : ∀ j : Nat, j ≠ 11 → j ≠ 17 → g1_3 j = g j := fun j h11 h17 => (k_7 j h11 h17)
  refine W_toi (y := tat f n (tsk f n j)) k_4 ?_
  refine lv_iload_n hx hb dX9_sign_4 rfl (lv_at hl 1 rfl) ?_
  refine lv_icmp_ne (tgt := 21) hx hb dX9_sign_5 (by decide) (fun c_12 => ?_) (fun c_12 => ?_)
  · refine lv_aload_n hx hb dX9_sign_21 rfl (lv_at hl 0 rfl) ?_
    refine lv_iconst (v := 1) hx hb dX9_sign_22 (by decide) ?_
    refine lv_aload_n hx hb dX9_sign_23 rfl (lv_at hl 0 rfl) ?_
    refine va_get (D := (dC, dI)) (ci := 11) (v := .int (nI (tsk f n j))) (C := RX9) (T := TX9) (N := 60) hx hb hts iRX9 hown hK hP 0 rfl rfl 11 (by decide) (hts (.fieldLink RX9 141 "RecordBenchModel" "at" "I") (by decide +kernel)) (fun _ h9 => h9) ((mo_get g1_3 (by decide)).trans (congrArg some k_5)) dX9_sign_24 ?_
    have hFc := va_free (wc := [(h0, .inr (11, mo g1_3))]) hD hS hA [0] rfl
    refine va_callv (va_runV (As := [.int 1, .int (nI (tsk f n j))]) (rest := []) ⟨hx, hb, hml, hown, hts⟩ (c_X9_fail l dC dI h0 g1_3 b0 w_10 1 (nI (tsk f n j)) (by decide) H.size) (cwV 2 hts gp_X9_sign_X9_fail_154 rfl rfl rfl (by decide +kernel) ⟨Nat.le_of_ble_eq_true rfl, Nat.le_of_ble_eq_true rfl⟩) ⟨Pr.blind _, va_recv hK hP (ci := 11) (q0 := 0) rfl rfl, fun U hU hW => ⟨rfl, Pr.at (hP.sub (ws' := [(h0, .inr (11, mo g1_3))]) [0] rfl) (hK.sub (tys' := []) [] rfl) (hD.sub (ws' := [(h0, .inr (11, mo g1_3))]) [0] (by decide) rfl) hN hZ RO.nil hS hFc hU hW⟩⟩ rfl rfl hl.1 rfl (lv_room (Nat.le_of_ble_eq_true rfl)) dX9_sign_27 ⟨Nat.le_of_ble_eq_true rfl, Nat.le_of_ble_eq_true rfl⟩) hS (fun q _ h => hFc q h) hFc (fun u t H1 locs ht hvm hw_14 hB hz1 hk1 hS => ?_)
    obtain ⟨g1_15, b1_16⟩ := u
    obtain ⟨hP, hD, hK⟩ := Bq.join (wr := [(a9, .inl (cT, 400, .inl f))]) hB ht hvm hP hD [0] [1] rfl rfl (by decide) (by decide) hk1 hFc hK
    generalize H1 = H at hP hS ⊢
    have hP : va_P (dC, dI) vwCl [(a9, .inl (cT, 400, .inl f)), (h0, .inr (11, mo g1_15))] H := hP
    have hD : va_D A [(a9, .inl (cT, 400, .inl f)), (h0, .inr (11, mo g1_15))] := hD
    have hK : va_K (dC, dI) vwCl [(cT, .int)] s := hK
    try dsimp only at hw_14
    obtain ⟨k_17, k_18, k_19⟩ := hw_14
    have w_20 : g1_15 11 = .int (nI (tsk f n j)) := (k_19 11 (by decide) (by decide)).trans k_5
    have w_21 : g1_15 17 = .int (nI (tsk f n j)) := (k_19 17 (by decide) (by decide)).trans k_6
    have w_22 : g1_15 9 = .ref a9 := (k_19 9 (by decide) (by decide)).trans w_8
    have w_23 : g1_15 12 = .int (nI n) := (k_19 12 (by decide) (by decide)).trans w_9
    have un_24 : ∀ j : Nat, j ≠ 11 → j ≠ 13 → j ≠ 14 → j ≠ 17 → g1_15 j = g j := fun j h11 h13 h14 h17 => (k_19 j h13 h14).trans (un_11 j h11 h17)
    have hP9 := hP.sub (ws' := [(h0, .inr (11, mo g1_15)), (a9, .inl (cT, 400, .inl f))]) [1, 0] rfl
    have hD9 := hD.sub (ws' := [(h0, .inr (11, mo g1_15)), (a9, .inl (cT, 400, .inl f))]) [1, 0] (by decide) rfl
    have hK9 := hK.sub (tys' := []) [] rfl
    exact W.vret hx hb hr (fun t ht hW => ⟨⟨(g1_15, (tsk f n j), b1_16), rfl, ⟨Or.inr ⟨c_12, rfl, k_17⟩, w_20, k_18, w_21, (fun j h11 h13 h14 h17 => un_24 j h11 h13 h14 h17)⟩, by rw [ht]; exact hP9, va_K.moved hW.alike hK9, hD9⟩, hS.F ht⟩) hS.2.2 dX9_sign_30
  · refine lv_aload_n hx hb dX9_sign_8 rfl (lv_at hl 0 rfl) ?_
    refine lv_dup hx hb dX9_sign_9 rfl ?_
    refine va_get (D := (dC, dI)) (ci := 11) (v := .int (nI (tsk f n j))) (C := RX9) (T := TX9) (N := 60) hx hb hts iRX9 hown hK hP 0 rfl rfl 11 (by decide) (hts (.fieldLink RX9 141 "RecordBenchModel" "at" "I") (by decide +kernel)) (fun _ h9 => h9) ((mo_get g1_3 (by decide)).trans (congrArg some k_5)) dX9_sign_10 ?_
    refine lv_iconst (v := 1) hx hb dX9_sign_13 (by decide) ?_
    refine lv_iadd hx hb dX9_sign_14 ?_
    refine W_toi (y := nI (tsk f n j + 1)) (nI_1 _) ?_
    refine va_put (D := (dC, dI)) (ci := 11) (v := .int (nI (tsk f n j + 1))) (ty := .int) (C := RX9) (T := TX9) (N := 60) hx hb hts iRX9 tyX9 tyX9_ok nmX9 hown hK hP hD hS 0 rfl rfl 11 (by decide) (hts (.fieldLink RX9 141 "RecordBenchModel" "at" "I") (by decide +kernel)) (fun _ h9 => h9) rfl (by decide +kernel) rfl rfl (by rw [mo_len]; decide) dX9_sign_15 (fun H locs hP hD hS => ?_)
    obtain ⟨g_25, eg_25⟩ : ∃ y, y = va_up g1_3 11 (.int (nI (tsk f n j + 1))) := ⟨_, rfl⟩
    have hP : va_P (dC, dI) vwCl [(h0, .inr (11, mo g_25)), (a9, .inl (cT, 400, .inl f))] H := by rw [eg_25, ← mo_set g1_3 (by decide)]; exact hP
    have hD : va_D A [(h0, .inr (11, mo g_25)), (a9, .inl (cT, 400, .inl f))] := by rw [eg_25, ← mo_set g1_3 (by decide)]; exact hD
    have g_25h17 : g_25 17 = .int (nI (tsk f n j)) := by rw [eg_25, va_up_ne _ _ (by decide)]; exact k_6
    have g_25h9 : g_25 9 = .ref a9 := by rw [eg_25, va_up_ne _ _ (by decide)]; exact w_8
    have g_25h12 : g_25 12 = .int (nI n) := by rw [eg_25, va_up_ne _ _ (by decide)]; exact w_9
    have g_25h13 : g_25 13 = .int b0 := by rw [eg_25, va_up_ne _ _ (by decide)]; exact w_10
    have g_25h11 : g_25 11 = .int (nI (tsk f n j + 1)) := by rw [eg_25, va_up_self]
    have ung_25 : ∀ j : Nat, j ≠ 11 → j ≠ 17 → g_25 j = g j := fun j h11 h17 => by rw [eg_25, va_up_ne _ _ h11]; exact un_11 j h11 h17
    refine lv_goto (tgt := 30) hx hb dX9_sign_18 (by decide) ?_
    have hP9 := hP.sub (ws' := [(h0, .inr (11, mo g_25)), (a9, .inl (cT, 400, .inl f))]) [0, 1] rfl
    have hD9 := hD.sub (ws' := [(h0, .inr (11, mo g_25)), (a9, .inl (cT, 400, .inl f))]) [0, 1] (by decide) rfl
    have hK9 := hK.sub (tys' := []) [] rfl
    exact W.vret hx hb hr (fun t ht hW => ⟨⟨(g_25, (tsk f n j + 1), b0), rfl, ⟨Or.inl ⟨c_12, tat_in c_12 hp, rfl, rfl⟩, g_25h11, g_25h13, g_25h17, (fun j h11 h13 h14 h17 => ung_25 j h11 h17)⟩, by rw [ht]; exact hP9, va_K.moved hW.alike hK9, hD9⟩, hS.F ht⟩) hS.2.2 dX9_sign_30
def wp_X9_digit : List Cond := .code yX9_digit cX9_digit 1 (some .int) :: ([.methodLink RX9 150 yX9_next, .instanceMethod yX9_next, .selects RX9 yX9_next yX9_next, .initialized RX9, .methodLink RX9 158 yX9_isDigit, .static yX9_isDigit, .fieldLink RX9 141 "RecordBenchModel" "at" "I", .fieldLink RX9 162 "RecordBenchModel" "ended" "I", .fieldLink RX9 39 "RecordBenchModel" "tape" "[I", .fieldLink RX9 147 "RecordBenchModel" "begun" "I", .methodLink RX9 154 yX9_fail, .instanceMethod yX9_fail, .selects RX9 yX9_fail yX9_fail, .code yX9_next cX9_next 1 (some .int), .fieldLink RX9 144 "RecordBenchModel" "size" "I", .code yX9_isDigit cX9_isDigit 1 (some .boolean), .code yX9_fail cX9_fail 3 none, .fieldLink RX9 135 "RecordBenchModel" "bad" "I", .fieldLink RX9 138 "RecordBenchModel" "badPlace" "I"] ++ wsX90)
set_option maxRecDepth 20000 in
theorem gp_X9_digit_X9_next_150 : GoodIn wp_X9_digit (wsV RX9 150 RX9 yX9_next wp_X9_next) := goodIn_p _ [14] rfl (by decide +kernel)
set_option maxRecDepth 20000 in
theorem gp_X9_digit_X9_isDigit_158 : GoodIn wp_X9_digit (wsS RX9 158 yX9_isDigit wp_X9_isDigit) := goodIn_p _ [16] rfl (by decide +kernel)
set_option maxRecDepth 20000 in
theorem gp_X9_digit_X9_fail_154 : GoodIn wp_X9_digit (wsV RX9 154 RX9 yX9_fail wp_X9_fail) := goodIn_p _ [17] rfl (by decide +kernel)
set_option maxHeartbeats 4000000 in
set_option maxRecDepth 100000 in
theorem c_X9_digit (l : Launch) (dC : Nat → ClassId) (dI : Nat → Nat → Nat) (h0 : Nat) (g : Nat → Value) (a9 : Nat) (cT : ClassId) (f : Nat → Int32) (j : Nat) (n : Nat) (b0 : Int32) (x18 : Int32) (fh9 : g 9 = .ref a9) (fh11 : g 11 = .int (nI j)) (fh12 : g 12 = .int (nI n)) (fh13 : g 13 = .int b0) (fh18 : g 18 = .int x18) (hj : j ≤ n) (hn : n ≤ 400) (sz : Nat) : Met l yX9_digit wp_X9_digit ({ frames := 1, cells := 0, slots := 0, locals := 26 }) (va_Pc [.ref h0] (Pr (dC, dI) [(cT, .int)] [] [(h0, .inr (11, mo g)), (a9, .inl (cT, 400, .inl f))] sz)) (va_Qi (fun r : Int32 => (fun (u : (Nat → Value) × Nat × Int32 × Int32) => match u with | (g1, j1, b1, x1) => ((isD (tat f n (tsk f n j)) ∧ tsk f n j < n ∧ x18 ≠ nI (tsk f n j) ∧ j1 = tsk f n j + 1 ∧ b0 = b1 ∧ r = tat f n (tsk f n j) - 48 ∧ x1 = nI (tsk f n j + 1)) ∨ (¬ (isD (tat f n (tsk f n j)) ∧ x18 ≠ nI (tsk f n j)) ∧ j1 = tsk f n j ∧ b1 ≠ 0 ∧ r = 0 ∧ x18 = x1)) ∧ (g1 11 = .int (nI j1)) ∧ (g1 13 = .int b1) ∧ (g1 17 = .int (nI (tsk f n j))) ∧ (g1 18 = .int x1) ∧ (∀ j : Nat, j ≠ 11 → j ≠ 13 → j ≠ 14 → j ≠ 17 → j ≠ 18 → g1 j = g j))) (Bq (dC, dI) (fun (u : (Nat → Value) × Nat × Int32 × Int32) => match u with | (g1, j1, b1, x1) => [(h0, .inr (11, mo g1)), (a9, .inl (cT, 400, .inl f))]) (fun (u : (Nat → Value) × Nat × Int32 × Int32) => match u with | (g1, j1, b1, x1) => []) (va_A [(h0, .inr (11, mo g)), (a9, .inl (cT, 400, .inl f))] sz)) (va_A [(h0, .inr (11, mo g)), (a9, .inl (cT, 400, .inl f))] sz)) 0 0 (va_A [(h0, .inr (11, mo g)), (a9, .inl (cT, 400, .inl f))] sz) := by
  refine Met.ofW (cc := cX9_digit) (maxL := 1) (ret := (some .int)) (by decide) rfl ?_
  intro p e s m args below meth c s₁ B hml hv
  obtain ⟨rfl, hsz, hP, hK, hD0, hN, hZ, hR⟩ := hv
  have hx := B.exec
  have hb := B.bytes
  have hr := B.returns
  have hts := atoms_spec (ws := wp_X9_digit) B.pre
  have hown : s.vm.findClass RX9 = some m.cls := findClass_of_methodNamed B.named
  have hlocks := B.notSynchronized
  have iRX9 : ∀ w ∈ u_ws RX9 TX9 60, w ∈ wp_X9_digit := by decide +kernel
  subst hsz
  have hD := hD0.self (sz := s.heap.size)
  generalize hAe : va_A [(h0, .inr (11, mo g)), (a9, .inl (cT, 400, .inl f))] s.heap.size = A at hD hZ hR ⊢
  have hA : ∀ q : Nat, s.heap.size ≤ q → A q := fun q h => by rw [← hAe]; exact Or.inr h
  have hS : va_S A s.heap s.heap [] := va_S.rf
  have hP : va_P (dC, dI) vwCl [(h0, .inr (11, mo g)), (a9, .inl (cT, 400, .inl f))] s.heap := hP
  have hl := lv_entry ([.ref h0]) (n := 1) (Nat.le_of_ble_eq_true rfl)
  rw [lg_entry_eq]
  generalize (lg_sl ([.ref h0]) ++ List.replicate (1 - (lg_sl ([.ref h0])).length) Slot.unset).toArray = ls at hl ⊢
  have hl : lv_has ls 1 [(0, .ref h0)] := hl
  refine lv_aload_n hx hb dX9_digit_0 rfl (lv_at hl 0 rfl) ?_
  have hFc := va_free (wc := [(h0, .inr (11, mo g)), (a9, .inl (cT, 400, .inl f))]) hD hS hA [0, 1] rfl
  refine va_calli (va_runV (As := []) (rest := []) ⟨hx, hb, hml, hown, hts⟩ (c_X9_next l dC dI h0 g a9 cT f j n fh9 fh11 fh12 (by omega) (by omega) s.heap.size) (cwV 0 hts gp_X9_digit_X9_next_150 rfl rfl rfl (by decide +kernel) ⟨Nat.le_of_ble_eq_true rfl, Nat.le_of_ble_eq_true rfl⟩) ⟨Pr.blind _, va_recv hK hP (ci := 11) (q0 := 0) rfl rfl, fun U hU hW => ⟨rfl, Pr.at (hP.sub (ws' := [(h0, .inr (11, mo g)), (a9, .inl (cT, 400, .inl f))]) [0, 1] rfl) (hK.sub (tys' := [(cT, .int)]) [0] rfl) (hD.sub (ws' := [(h0, .inr (11, mo g)), (a9, .inl (cT, 400, .inl f))]) [0, 1] (by decide) rfl) hN hZ RO.nil hS hFc hU hW⟩⟩ rfl rfl hl.1 rfl (lv_room (Nat.le_of_ble_eq_true rfl)) dX9_digit_1 ⟨Nat.le_of_ble_eq_true rfl, Nat.le_of_ble_eq_true rfl⟩) hS (fun q _ h => hFc q h) hFc (fun r_1 u t H1 locs ht hvm hw_2 hB hz1 hk1 hS => ?_)
  obtain ⟨g1_3, rfl⟩ : ∃ z, z = u := ⟨_, rfl⟩
  obtain ⟨hP, hD, hK⟩ := Bq.join (wr := []) hB ht hvm hP hD [0, 1] [] rfl rfl (by decide) (by decide) hk1 hFc hK
  generalize H1 = H at hP hS ⊢
  have hP : va_P (dC, dI) vwCl [(h0, .inr (11, mo g1_3)), (a9, .inl (cT, 400, .inl f))] H := hP
  have hD : va_D A [(h0, .inr (11, mo g1_3)), (a9, .inl (cT, 400, .inl f))] := hD
  have hK : va_K (dC, dI) vwCl [(cT, .int)] s := hK
  try dsimp only at hw_2
  obtain ⟨k_4, k_5, k_6, k_7⟩ := hw_2
  have w_8 : g1_3 9 = .ref a9 := (k_7 9 (by decide) (by decide)).trans fh9
  have w_9 : g1_3 12 = .int (nI n) := (k_7 12 (by decide) (by decide)).trans fh12
  have w_10 : g1_3 13 = .int b0 := (k_7 13 (by decide) (by decide)).trans fh13
  have w_11 : g1_3 18 = .int x18 := (k_7 18 (by decide) (by decide)).trans fh18
  have un_12 : ∀ j : Nat, j ≠ 11 → j ≠ 17 → g1_3 j = g j := fun j h11 h17 => (k_7 j h11 h17)
  refine W_toi (y := tat f n (tsk f n j)) k_4 ?_
  have hFc := va_free (wc := []) hD hS hA [] rfl
  refine va_calli (va_runS (As := [.int (tat f n (tsk f n j))]) (rest := []) ⟨hx, hb, hml, hown, hts⟩ (c_X9_isDigit l dC dI (tat f n (tsk f n j)) H.size) (cwS 1 hts gp_X9_digit_X9_isDigit_158 rfl rfl rfl (by decide +kernel) ⟨Nat.le_of_ble_eq_true rfl, Nat.le_of_ble_eq_true rfl⟩) ⟨Pr.blind _, fun U hU hW => ⟨rfl, Pr.at (hP.sub (ws' := []) [] rfl) (hK.sub (tys' := []) [] rfl) (hD.sub (ws' := []) [] (by decide) rfl) hN hZ RO.nil hS hFc hU hW⟩⟩ rfl rfl hl.1 rfl (lv_room (Nat.le_of_ble_eq_true rfl)) dX9_digit_4 ⟨Nat.le_of_ble_eq_true rfl, Nat.le_of_ble_eq_true rfl⟩) hS (fun q _ h => hFc q h) hFc (fun r_13 u t H1 locs ht hvm hw_14 hB hz1 hk1 hS => ?_)
  obtain ⟨hP, hD, hK⟩ := Bq.join (wr := [(h0, .inr (11, mo g1_3)), (a9, .inl (cT, 400, .inl f))]) hB ht hvm hP hD [] [0, 1] rfl rfl (by decide) (by decide) hk1 hFc hK
  generalize H1 = H at hP hS ⊢
  have hP : va_P (dC, dI) vwCl [(h0, .inr (11, mo g1_3)), (a9, .inl (cT, 400, .inl f))] H := hP
  have hD : va_D A [(h0, .inr (11, mo g1_3)), (a9, .inl (cT, 400, .inl f))] := hD
  have hK : va_K (dC, dI) vwCl [(cT, .int)] s := hK
  try dsimp only at hw_14
  have k_15 := hw_14
  rcases k_15 with ⟨ho, rfl⟩ | ⟨ho, rfl⟩
  · refine W.eq (g2 := F0 m 7 ls [.int 1]) rfl ?_
    refine lv_if_eq (tgt := 21) hx hb dX9_digit_7 (by decide) (fun c_16 => absurd c_16 (by decide)) (fun c_16 => ?_)
    refine lv_aload_n hx hb dX9_digit_10 rfl (lv_at hl 0 rfl) ?_
    refine va_get (D := (dC, dI)) (ci := 11) (v := .int (nI (tsk f n j))) (C := RX9) (T := TX9) (N := 60) hx hb hts iRX9 hown hK hP 0 rfl rfl 11 (by decide) (hts (.fieldLink RX9 141 "RecordBenchModel" "at" "I") (by decide +kernel)) (fun _ h9 => h9) ((mo_get g1_3 (by decide)).trans (congrArg some k_5)) dX9_digit_11 ?_
    refine lv_aload_n hx hb dX9_digit_14 rfl (lv_at hl 0 rfl) ?_
    refine va_get (D := (dC, dI)) (ci := 11) (v := .int x18) (C := RX9) (T := TX9) (N := 60) hx hb hts iRX9 hown hK hP 0 rfl rfl 18 (by decide) (hts (.fieldLink RX9 162 "RecordBenchModel" "ended" "I") (by decide +kernel)) (fun _ h9 => h9) ((mo_get g1_3 (by decide)).trans (congrArg some w_11)) dX9_digit_15 ?_
    refine lv_icmp_ne (tgt := 32) hx hb dX9_digit_18 (by decide) (fun c_17 => ?_) (fun c_17 => ?_)
    · refine lv_aload_n hx hb dX9_digit_32 rfl (lv_at hl 0 rfl) ?_
      refine lv_dup hx hb dX9_digit_33 rfl ?_
      refine va_get (D := (dC, dI)) (ci := 11) (v := .int (nI (tsk f n j))) (C := RX9) (T := TX9) (N := 60) hx hb hts iRX9 hown hK hP 0 rfl rfl 11 (by decide) (hts (.fieldLink RX9 141 "RecordBenchModel" "at" "I") (by decide +kernel)) (fun _ h9 => h9) ((mo_get g1_3 (by decide)).trans (congrArg some k_5)) dX9_digit_34 ?_
      refine lv_iconst (v := 1) hx hb dX9_digit_37 (by decide) ?_
      refine lv_iadd hx hb dX9_digit_38 ?_
      refine W_toi (y := nI (tsk f n j + 1)) (nI_1 _) ?_
      refine va_put (D := (dC, dI)) (ci := 11) (v := .int (nI (tsk f n j + 1))) (ty := .int) (C := RX9) (T := TX9) (N := 60) hx hb hts iRX9 tyX9 tyX9_ok nmX9 hown hK hP hD hS 0 rfl rfl 11 (by decide) (hts (.fieldLink RX9 141 "RecordBenchModel" "at" "I") (by decide +kernel)) (fun _ h9 => h9) rfl (by decide +kernel) rfl rfl (by rw [mo_len]; decide) dX9_digit_39 (fun H locs hP hD hS => ?_)
      obtain ⟨g_18, eg_18⟩ : ∃ y, y = va_up g1_3 11 (.int (nI (tsk f n j + 1))) := ⟨_, rfl⟩
      have hP : va_P (dC, dI) vwCl [(h0, .inr (11, mo g_18)), (a9, .inl (cT, 400, .inl f))] H := by rw [eg_18, ← mo_set g1_3 (by decide)]; exact hP
      have hD : va_D A [(h0, .inr (11, mo g_18)), (a9, .inl (cT, 400, .inl f))] := by rw [eg_18, ← mo_set g1_3 (by decide)]; exact hD
      have g_18h17 : g_18 17 = .int (nI (tsk f n j)) := by rw [eg_18, va_up_ne _ _ (by decide)]; exact k_6
      have g_18h9 : g_18 9 = .ref a9 := by rw [eg_18, va_up_ne _ _ (by decide)]; exact w_8
      have g_18h12 : g_18 12 = .int (nI n) := by rw [eg_18, va_up_ne _ _ (by decide)]; exact w_9
      have g_18h13 : g_18 13 = .int b0 := by rw [eg_18, va_up_ne _ _ (by decide)]; exact w_10
      have g_18h18 : g_18 18 = .int x18 := by rw [eg_18, va_up_ne _ _ (by decide)]; exact w_11
      have g_18h11 : g_18 11 = .int (nI (tsk f n j + 1)) := by rw [eg_18, va_up_self]
      have ung_18 : ∀ j : Nat, j ≠ 11 → j ≠ 17 → g_18 j = g j := fun j h11 h17 => by rw [eg_18, va_up_ne _ _ h11]; exact un_12 j h11 h17
      refine lv_aload_n hx hb dX9_digit_42 rfl (lv_at hl 0 rfl) ?_
      refine lv_aload_n hx hb dX9_digit_43 rfl (lv_at hl 0 rfl) ?_
      refine va_get (D := (dC, dI)) (ci := 11) (v := .int (nI (tsk f n j + 1))) (C := RX9) (T := TX9) (N := 60) hx hb hts iRX9 hown hK hP 0 rfl rfl 11 (by decide) (hts (.fieldLink RX9 141 "RecordBenchModel" "at" "I") (by decide +kernel)) (fun _ h9 => h9) ((mo_get g_18 (by decide)).trans (congrArg some g_18h11)) dX9_digit_44 ?_
      refine va_put (D := (dC, dI)) (ci := 11) (v := .int (nI (tsk f n j + 1))) (ty := .int) (C := RX9) (T := TX9) (N := 60) hx hb hts iRX9 tyX9 tyX9_ok nmX9 hown hK hP hD hS 0 rfl rfl 18 (by decide) (hts (.fieldLink RX9 162 "RecordBenchModel" "ended" "I") (by decide +kernel)) (fun _ h9 => h9) rfl (by decide +kernel) rfl rfl (by rw [mo_len]; decide) dX9_digit_47 (fun H locs hP hD hS => ?_)
      obtain ⟨g_19, eg_19⟩ : ∃ y, y = va_up g_18 18 (.int (nI (tsk f n j + 1))) := ⟨_, rfl⟩
      have hP : va_P (dC, dI) vwCl [(h0, .inr (11, mo g_19)), (a9, .inl (cT, 400, .inl f))] H := by rw [eg_19, ← mo_set g_18 (by decide)]; exact hP
      have hD : va_D A [(h0, .inr (11, mo g_19)), (a9, .inl (cT, 400, .inl f))] := by rw [eg_19, ← mo_set g_18 (by decide)]; exact hD
      have g_19h17 : g_19 17 = .int (nI (tsk f n j)) := by rw [eg_19, va_up_ne _ _ (by decide)]; exact g_18h17
      have g_19h9 : g_19 9 = .ref a9 := by rw [eg_19, va_up_ne _ _ (by decide)]; exact g_18h9
      have g_19h12 : g_19 12 = .int (nI n) := by rw [eg_19, va_up_ne _ _ (by decide)]; exact g_18h12
      have g_19h13 : g_19 13 = .int b0 := by rw [eg_19, va_up_ne _ _ (by decide)]; exact g_18h13
      have g_19h11 : g_19 11 = .int (nI (tsk f n j + 1)) := by rw [eg_19, va_up_ne _ _ (by decide)]; exact g_18h11
      have g_19h18 : g_19 18 = .int (nI (tsk f n j + 1)) := by rw [eg_19, va_up_self]
      have ung_19 : ∀ j : Nat, j ≠ 11 → j ≠ 17 → j ≠ 18 → g_19 j = g j := fun j h11 h17 h18 => by rw [eg_19, va_up_ne _ _ h18]; exact ung_18 j h11 h17
      refine lv_aload_n hx hb dX9_digit_50 rfl (lv_at hl 0 rfl) ?_
      refine va_get (D := (dC, dI)) (ci := 11) (v := .ref a9) (C := RX9) (T := TX9) (N := 60) hx hb hts iRX9 hown hK hP 0 rfl rfl 9 (by decide) (hts (.fieldLink RX9 39 "RecordBenchModel" "tape" "[I") (by decide +kernel)) (fun _ h9 => h9) ((mo_get g_19 (by decide)).trans (congrArg some g_19h9)) dX9_digit_51 ?_
      refine lv_aload_n hx hb dX9_digit_54 rfl (lv_at hl 0 rfl) ?_
      refine va_get (D := (dC, dI)) (ci := 11) (v := .int (nI (tsk f n j))) (C := RX9) (T := TX9) (N := 60) hx hb hts iRX9 hown hK hP 0 rfl rfl 17 (by decide) (hts (.fieldLink RX9 147 "RecordBenchModel" "begun" "I") (by decide +kernel)) (fun _ h9 => h9) ((mo_get g_19 (by decide)).trans (congrArg some g_19h17)) dX9_digit_55 ?_
      refine va_iald hx hb hK hP 1 0 rfl rfl (vp_in_nI (by have := isD_in ho; omega) (by decide)) dX9_digit_58 ?_
      refine W_toi (y := f (tsk f n j)) (by rw [nI_clamp (by have := isD_in ho; omega)]) ?_
      refine lv_bipush (v := 48) hx hb dX9_digit_59 (by decide) ?_
      refine lv_isub hx hb dX9_digit_61 ?_
      refine W_toi (y := f (tsk f n j) - 48) (rfl) ?_
      have hP9 := hP.sub (ws' := [(h0, .inr (11, mo g_19)), (a9, .inl (cT, 400, .inl f))]) [0, 1] rfl
      have hD9 := hD.sub (ws' := [(h0, .inr (11, mo g_19)), (a9, .inl (cT, 400, .inl f))]) [0, 1] (by decide) rfl
      have hK9 := hK.sub (tys' := []) [] rfl
      exact W.iret (v := f (tsk f n j) - 48) hx hb hr (fun t ht hW => ⟨⟨f (tsk f n j) - 48, (g_19, (tsk f n j + 1), b0, (nI (tsk f n j + 1))), rfl, ⟨Or.inl ⟨ho, isD_in ho, fun h => c_17 h.symm, rfl, rfl, by rw [tat_at (isD_in ho)], rfl⟩, g_19h11, g_19h13, g_19h17, g_19h18, (fun j h11 h13 h14 h17 h18 => ung_19 j h11 h17 h18)⟩, by rw [ht]; exact hP9, va_K.moved hW.alike hK9, hD9⟩, hS.F ht⟩) hS.2.2 dX9_digit_62
    · refine lv_aload_n hx hb dX9_digit_21 rfl (lv_at hl 0 rfl) ?_
      refine lv_iconst (v := 1) hx hb dX9_digit_22 (by decide) ?_
      refine lv_aload_n hx hb dX9_digit_23 rfl (lv_at hl 0 rfl) ?_
      refine va_get (D := (dC, dI)) (ci := 11) (v := .int (nI (tsk f n j))) (C := RX9) (T := TX9) (N := 60) hx hb hts iRX9 hown hK hP 0 rfl rfl 11 (by decide) (hts (.fieldLink RX9 141 "RecordBenchModel" "at" "I") (by decide +kernel)) (fun _ h9 => h9) ((mo_get g1_3 (by decide)).trans (congrArg some k_5)) dX9_digit_24 ?_
      have hFc := va_free (wc := [(h0, .inr (11, mo g1_3))]) hD hS hA [0] rfl
      refine va_callv (va_runV (As := [.int 1, .int (nI (tsk f n j))]) (rest := []) ⟨hx, hb, hml, hown, hts⟩ (c_X9_fail l dC dI h0 g1_3 b0 w_10 1 (nI (tsk f n j)) (by decide) H.size) (cwV 2 hts gp_X9_digit_X9_fail_154 rfl rfl rfl (by decide +kernel) ⟨Nat.le_of_ble_eq_true rfl, Nat.le_of_ble_eq_true rfl⟩) ⟨Pr.blind _, va_recv hK hP (ci := 11) (q0 := 0) rfl rfl, fun U hU hW => ⟨rfl, Pr.at (hP.sub (ws' := [(h0, .inr (11, mo g1_3))]) [0] rfl) (hK.sub (tys' := []) [] rfl) (hD.sub (ws' := [(h0, .inr (11, mo g1_3))]) [0] (by decide) rfl) hN hZ RO.nil hS hFc hU hW⟩⟩ rfl rfl hl.1 rfl (lv_room (Nat.le_of_ble_eq_true rfl)) dX9_digit_27 ⟨Nat.le_of_ble_eq_true rfl, Nat.le_of_ble_eq_true rfl⟩) hS (fun q _ h => hFc q h) hFc (fun u t H1 locs ht hvm hw_21 hB hz1 hk1 hS => ?_)
      obtain ⟨g1_22, b1_23⟩ := u
      obtain ⟨hP, hD, hK⟩ := Bq.join (wr := [(a9, .inl (cT, 400, .inl f))]) hB ht hvm hP hD [0] [1] rfl rfl (by decide) (by decide) hk1 hFc hK
      generalize H1 = H at hP hS ⊢
      have hP : va_P (dC, dI) vwCl [(a9, .inl (cT, 400, .inl f)), (h0, .inr (11, mo g1_22))] H := hP
      have hD : va_D A [(a9, .inl (cT, 400, .inl f)), (h0, .inr (11, mo g1_22))] := hD
      have hK : va_K (dC, dI) vwCl [(cT, .int)] s := hK
      try dsimp only at hw_21
      obtain ⟨k_24, k_25, k_26⟩ := hw_21
      have w_27 : g1_22 11 = .int (nI (tsk f n j)) := (k_26 11 (by decide) (by decide)).trans k_5
      have w_28 : g1_22 17 = .int (nI (tsk f n j)) := (k_26 17 (by decide) (by decide)).trans k_6
      have w_29 : g1_22 9 = .ref a9 := (k_26 9 (by decide) (by decide)).trans w_8
      have w_30 : g1_22 12 = .int (nI n) := (k_26 12 (by decide) (by decide)).trans w_9
      have w_31 : g1_22 18 = .int x18 := (k_26 18 (by decide) (by decide)).trans w_11
      have un_32 : ∀ j : Nat, j ≠ 11 → j ≠ 13 → j ≠ 14 → j ≠ 17 → g1_22 j = g j := fun j h11 h13 h14 h17 => (k_26 j h13 h14).trans (un_12 j h11 h17)
      refine lv_iconst (v := 0) hx hb dX9_digit_30 (by decide) ?_
      have hP9 := hP.sub (ws' := [(h0, .inr (11, mo g1_22)), (a9, .inl (cT, 400, .inl f))]) [1, 0] rfl
      have hD9 := hD.sub (ws' := [(h0, .inr (11, mo g1_22)), (a9, .inl (cT, 400, .inl f))]) [1, 0] (by decide) rfl
      have hK9 := hK.sub (tys' := []) [] rfl
      exact W.iret (v := 0) hx hb hr (fun t ht hW => ⟨⟨0, (g1_22, (tsk f n j), b1_23, x18), rfl, ⟨Or.inr ⟨fun h => h.2 c_17.symm, rfl, k_24, rfl, rfl⟩, w_27, k_25, w_28, w_31, (fun j h11 h13 h14 h17 h18 => un_32 j h11 h13 h14 h17)⟩, by rw [ht]; exact hP9, va_K.moved hW.alike hK9, hD9⟩, hS.F ht⟩) hS.2.2 dX9_digit_31
  · refine W.eq (g2 := F0 m 7 ls [.int 0]) rfl ?_
    refine lv_if_eq (tgt := 21) hx hb dX9_digit_7 (by decide) (fun c_33 => ?_) (fun c_33 => absurd (by decide) c_33)
    refine lv_aload_n hx hb dX9_digit_21 rfl (lv_at hl 0 rfl) ?_
    refine lv_iconst (v := 1) hx hb dX9_digit_22 (by decide) ?_
    refine lv_aload_n hx hb dX9_digit_23 rfl (lv_at hl 0 rfl) ?_
    refine va_get (D := (dC, dI)) (ci := 11) (v := .int (nI (tsk f n j))) (C := RX9) (T := TX9) (N := 60) hx hb hts iRX9 hown hK hP 0 rfl rfl 11 (by decide) (hts (.fieldLink RX9 141 "RecordBenchModel" "at" "I") (by decide +kernel)) (fun _ h9 => h9) ((mo_get g1_3 (by decide)).trans (congrArg some k_5)) dX9_digit_24 ?_
    have hFc := va_free (wc := [(h0, .inr (11, mo g1_3))]) hD hS hA [0] rfl
    refine va_callv (va_runV (As := [.int 1, .int (nI (tsk f n j))]) (rest := []) ⟨hx, hb, hml, hown, hts⟩ (c_X9_fail l dC dI h0 g1_3 b0 w_10 1 (nI (tsk f n j)) (by decide) H.size) (cwV 2 hts gp_X9_digit_X9_fail_154 rfl rfl rfl (by decide +kernel) ⟨Nat.le_of_ble_eq_true rfl, Nat.le_of_ble_eq_true rfl⟩) ⟨Pr.blind _, va_recv hK hP (ci := 11) (q0 := 0) rfl rfl, fun U hU hW => ⟨rfl, Pr.at (hP.sub (ws' := [(h0, .inr (11, mo g1_3))]) [0] rfl) (hK.sub (tys' := []) [] rfl) (hD.sub (ws' := [(h0, .inr (11, mo g1_3))]) [0] (by decide) rfl) hN hZ RO.nil hS hFc hU hW⟩⟩ rfl rfl hl.1 rfl (lv_room (Nat.le_of_ble_eq_true rfl)) dX9_digit_27 ⟨Nat.le_of_ble_eq_true rfl, Nat.le_of_ble_eq_true rfl⟩) hS (fun q _ h => hFc q h) hFc (fun u t H1 locs ht hvm hw_35 hB hz1 hk1 hS => ?_)
    obtain ⟨g1_36, b1_37⟩ := u
    obtain ⟨hP, hD, hK⟩ := Bq.join (wr := [(a9, .inl (cT, 400, .inl f))]) hB ht hvm hP hD [0] [1] rfl rfl (by decide) (by decide) hk1 hFc hK
    generalize H1 = H at hP hS ⊢
    have hP : va_P (dC, dI) vwCl [(a9, .inl (cT, 400, .inl f)), (h0, .inr (11, mo g1_36))] H := hP
    have hD : va_D A [(a9, .inl (cT, 400, .inl f)), (h0, .inr (11, mo g1_36))] := hD
    have hK : va_K (dC, dI) vwCl [(cT, .int)] s := hK
    try dsimp only at hw_35
    obtain ⟨k_38, k_39, k_40⟩ := hw_35
    have w_41 : g1_36 11 = .int (nI (tsk f n j)) := (k_40 11 (by decide) (by decide)).trans k_5
    have w_42 : g1_36 17 = .int (nI (tsk f n j)) := (k_40 17 (by decide) (by decide)).trans k_6
    have w_43 : g1_36 9 = .ref a9 := (k_40 9 (by decide) (by decide)).trans w_8
    have w_44 : g1_36 12 = .int (nI n) := (k_40 12 (by decide) (by decide)).trans w_9
    have w_45 : g1_36 18 = .int x18 := (k_40 18 (by decide) (by decide)).trans w_11
    have un_46 : ∀ j : Nat, j ≠ 11 → j ≠ 13 → j ≠ 14 → j ≠ 17 → g1_36 j = g j := fun j h11 h13 h14 h17 => (k_40 j h13 h14).trans (un_12 j h11 h17)
    refine lv_iconst (v := 0) hx hb dX9_digit_30 (by decide) ?_
    have hP9 := hP.sub (ws' := [(h0, .inr (11, mo g1_36)), (a9, .inl (cT, 400, .inl f))]) [1, 0] rfl
    have hD9 := hD.sub (ws' := [(h0, .inr (11, mo g1_36)), (a9, .inl (cT, 400, .inl f))]) [1, 0] (by decide) rfl
    have hK9 := hK.sub (tys' := []) [] rfl
    exact W.iret (v := 0) hx hb hr (fun t ht hW => ⟨⟨0, (g1_36, (tsk f n j), b1_37, x18), rfl, ⟨Or.inr ⟨fun h => ho h.1, rfl, k_38, rfl, rfl⟩, w_41, k_39, w_42, w_45, (fun j h11 h13 h14 h17 h18 => un_46 j h11 h13 h14 h17)⟩, by rw [ht]; exact hP9, va_K.moved hW.alike hK9, hD9⟩, hS.F ht⟩) hS.2.2 dX9_digit_31
def wp_X9_ends : List Cond := .code yX9_ends cX9_ends 1 none :: ([.fieldLink RX9 141 "RecordBenchModel" "at" "I", .fieldLink RX9 144 "RecordBenchModel" "size" "I", .fieldLink RX9 39 "RecordBenchModel" "tape" "[I", .methodLink RX9 158 yX9_isDigit, .static yX9_isDigit, .initialized RX9, .methodLink RX9 154 yX9_fail, .instanceMethod yX9_fail, .selects RX9 yX9_fail yX9_fail, .code yX9_isDigit cX9_isDigit 1 (some .boolean), .code yX9_fail cX9_fail 3 none, .fieldLink RX9 135 "RecordBenchModel" "bad" "I", .fieldLink RX9 138 "RecordBenchModel" "badPlace" "I"] ++ wsX90)
set_option maxRecDepth 20000 in
theorem gp_X9_ends_X9_isDigit_158 : GoodIn wp_X9_ends (wsS RX9 158 yX9_isDigit wp_X9_isDigit) := goodIn_p _ [10] rfl (by decide +kernel)
set_option maxRecDepth 20000 in
theorem gp_X9_ends_X9_fail_154 : GoodIn wp_X9_ends (wsV RX9 154 RX9 yX9_fail wp_X9_fail) := goodIn_p _ [11] rfl (by decide +kernel)
set_option maxHeartbeats 4000000 in
set_option maxRecDepth 100000 in
theorem c_X9_ends (l : Launch) (dC : Nat → ClassId) (dI : Nat → Nat → Nat) (h0 : Nat) (g : Nat → Value) (a9 : Nat) (cT : ClassId) (f : Nat → Int32) (j : Nat) (n : Nat) (b0 : Int32) (fh9 : g 9 = .ref a9) (fh11 : g 11 = .int (nI j)) (fh12 : g 12 = .int (nI n)) (fh13 : g 13 = .int b0) (hj : j ≤ n) (hn : n ≤ 400) (sz : Nat) : Met l yX9_ends wp_X9_ends ({ frames := 1, cells := 0, slots := 0, locals := 26 }) (va_Pc [.ref h0] (Pr (dC, dI) [(cT, .int)] [] [(h0, .inr (11, mo g)), (a9, .inl (cT, 400, .inl f))] sz)) (va_Qv (fun (u : (Nat → Value) × Int32) => match u with | (g1, b1) => ((¬ isD (tat f n j) ∧ b0 = b1) ∨ (isD (tat f n j) ∧ b1 ≠ 0)) ∧ (g1 13 = .int b1) ∧ (∀ j : Nat, j ≠ 13 → j ≠ 14 → g1 j = g j)) (Bq (dC, dI) (fun (u : (Nat → Value) × Int32) => match u with | (g1, b1) => [(h0, .inr (11, mo g1)), (a9, .inl (cT, 400, .inl f))]) (fun (u : (Nat → Value) × Int32) => match u with | (g1, b1) => []) (va_A [(h0, .inr (11, mo g)), (a9, .inl (cT, 400, .inl f))] sz)) (va_A [(h0, .inr (11, mo g)), (a9, .inl (cT, 400, .inl f))] sz)) 0 0 (va_A [(h0, .inr (11, mo g)), (a9, .inl (cT, 400, .inl f))] sz) := by
  refine Met.ofW (cc := cX9_ends) (maxL := 1) (ret := none) (by decide) rfl ?_
  intro p e s m args below meth c s₁ B hml hv
  obtain ⟨rfl, hsz, hP, hK, hD0, hN, hZ, hR⟩ := hv
  have hx := B.exec
  have hb := B.bytes
  have hr := B.returns
  have hts := atoms_spec (ws := wp_X9_ends) B.pre
  have hown : s.vm.findClass RX9 = some m.cls := findClass_of_methodNamed B.named
  have hlocks := B.notSynchronized
  have iRX9 : ∀ w ∈ u_ws RX9 TX9 60, w ∈ wp_X9_ends := by decide +kernel
  subst hsz
  have hD := hD0.self (sz := s.heap.size)
  generalize hAe : va_A [(h0, .inr (11, mo g)), (a9, .inl (cT, 400, .inl f))] s.heap.size = A at hD hZ hR ⊢
  have hA : ∀ q : Nat, s.heap.size ≤ q → A q := fun q h => by rw [← hAe]; exact Or.inr h
  have hS : va_S A s.heap s.heap [] := va_S.rf
  have hP : va_P (dC, dI) vwCl [(h0, .inr (11, mo g)), (a9, .inl (cT, 400, .inl f))] s.heap := hP
  have hl := lv_entry ([.ref h0]) (n := 1) (Nat.le_of_ble_eq_true rfl)
  rw [lg_entry_eq]
  generalize (lg_sl ([.ref h0]) ++ List.replicate (1 - (lg_sl ([.ref h0])).length) Slot.unset).toArray = ls at hl ⊢
  have hl : lv_has ls 1 [(0, .ref h0)] := hl
  refine lv_aload_n hx hb dX9_ends_0 rfl (lv_at hl 0 rfl) ?_
  refine va_get (D := (dC, dI)) (ci := 11) (v := .int (nI j)) (C := RX9) (T := TX9) (N := 60) hx hb hts iRX9 hown hK hP 0 rfl rfl 11 (by decide) (hts (.fieldLink RX9 141 "RecordBenchModel" "at" "I") (by decide +kernel)) (fun _ h9 => h9) ((mo_get g (by decide)).trans (congrArg some fh11)) dX9_ends_1 ?_
  refine lv_aload_n hx hb dX9_ends_4 rfl (lv_at hl 0 rfl) ?_
  refine va_get (D := (dC, dI)) (ci := 11) (v := .int (nI n)) (C := RX9) (T := TX9) (N := 60) hx hb hts iRX9 hown hK hP 0 rfl rfl 12 (by decide) (hts (.fieldLink RX9 144 "RecordBenchModel" "size" "I") (by decide +kernel)) (fun _ h9 => h9) ((mo_get g (by decide)).trans (congrArg some fh12)) dX9_ends_5 ?_
  refine lv_icmp_ge (tgt := 35) hx hb dX9_ends_8 (by decide) (fun c_1 => ?_) (fun c_1 => ?_)
  · have hP9 := hP.sub (ws' := [(h0, .inr (11, mo g)), (a9, .inl (cT, 400, .inl f))]) [0, 1] rfl
    have hD9 := hD.sub (ws' := [(h0, .inr (11, mo g)), (a9, .inl (cT, 400, .inl f))]) [0, 1] (by decide) rfl
    have hK9 := hK.sub (tys' := []) [] rfl
    exact W.vret hx hb hr (fun t ht hW => ⟨⟨(g, b0), rfl, ⟨Or.inl ⟨fun h => absurd (isD_in h) (by have := nI_leN (by omega) (by omega) c_1; omega), rfl⟩, fh13, (fun j h13 h14 => rfl)⟩, by rw [ht]; exact hP9, va_K.moved hW.alike hK9, hD9⟩, hS.F ht⟩) hS.2.2 dX9_ends_35
  · have hlt : j < n := nI_ltN (by omega) (by omega) c_1
    refine lv_aload_n hx hb dX9_ends_11 rfl (lv_at hl 0 rfl) ?_
    refine va_get (D := (dC, dI)) (ci := 11) (v := .ref a9) (C := RX9) (T := TX9) (N := 60) hx hb hts iRX9 hown hK hP 0 rfl rfl 9 (by decide) (hts (.fieldLink RX9 39 "RecordBenchModel" "tape" "[I") (by decide +kernel)) (fun _ h9 => h9) ((mo_get g (by decide)).trans (congrArg some fh9)) dX9_ends_12 ?_
    refine lv_aload_n hx hb dX9_ends_15 rfl (lv_at hl 0 rfl) ?_
    refine va_get (D := (dC, dI)) (ci := 11) (v := .int (nI j)) (C := RX9) (T := TX9) (N := 60) hx hb hts iRX9 hown hK hP 0 rfl rfl 11 (by decide) (hts (.fieldLink RX9 141 "RecordBenchModel" "at" "I") (by decide +kernel)) (fun _ h9 => h9) ((mo_get g (by decide)).trans (congrArg some fh11)) dX9_ends_16 ?_
    refine va_iald hx hb hK hP 1 0 rfl rfl (vp_in_nI (by omega) (by decide)) dX9_ends_19 ?_
    refine W_toi (y := f j) (by rw [nI_clamp (by omega)]) ?_
    have hFc := va_free (wc := []) hD hS hA [] rfl
    refine va_calli (va_runS (As := [.int (f j)]) (rest := []) ⟨hx, hb, hml, hown, hts⟩ (c_X9_isDigit l dC dI (f j) s.heap.size) (cwS 1 hts gp_X9_ends_X9_isDigit_158 rfl rfl rfl (by decide +kernel) ⟨Nat.le_of_ble_eq_true rfl, Nat.le_of_ble_eq_true rfl⟩) ⟨Pr.blind _, fun U hU hW => ⟨rfl, Pr.at (hP.sub (ws' := []) [] rfl) (hK.sub (tys' := []) [] rfl) (hD.sub (ws' := []) [] (by decide) rfl) hN hZ RO.nil hS hFc hU hW⟩⟩ rfl rfl hl.1 rfl (lv_room (Nat.le_of_ble_eq_true rfl)) dX9_ends_20 ⟨Nat.le_of_ble_eq_true rfl, Nat.le_of_ble_eq_true rfl⟩) hS (fun q _ h => hFc q h) hFc (fun r_2 u t H1 locs ht hvm hw_3 hB hz1 hk1 hS => ?_)
    obtain ⟨hP, hD, hK⟩ := Bq.join (wr := [(h0, .inr (11, mo g)), (a9, .inl (cT, 400, .inl f))]) hB ht hvm hP hD [] [0, 1] rfl rfl (by decide) (by decide) hk1 hFc hK
    generalize H1 = H at hP hS ⊢
    have hP : va_P (dC, dI) vwCl [(h0, .inr (11, mo g)), (a9, .inl (cT, 400, .inl f))] H := hP
    have hD : va_D A [(h0, .inr (11, mo g)), (a9, .inl (cT, 400, .inl f))] := hD
    have hK : va_K (dC, dI) vwCl [(cT, .int)] s := hK
    try dsimp only at hw_3
    have k_4 := hw_3
    rcases k_4 with ⟨ho, rfl⟩ | ⟨ho, rfl⟩
    · refine W.eq (g2 := F0 m 23 ls [.int 1]) rfl ?_
      refine lv_if_eq (tgt := 35) hx hb dX9_ends_23 (by decide) (fun c_5 => absurd c_5 (by decide)) (fun c_5 => ?_)
      refine lv_aload_n hx hb dX9_ends_26 rfl (lv_at hl 0 rfl) ?_
      refine lv_iconst (v := 1) hx hb dX9_ends_27 (by decide) ?_
      refine lv_aload_n hx hb dX9_ends_28 rfl (lv_at hl 0 rfl) ?_
      refine va_get (D := (dC, dI)) (ci := 11) (v := .int (nI j)) (C := RX9) (T := TX9) (N := 60) hx hb hts iRX9 hown hK hP 0 rfl rfl 11 (by decide) (hts (.fieldLink RX9 141 "RecordBenchModel" "at" "I") (by decide +kernel)) (fun _ h9 => h9) ((mo_get g (by decide)).trans (congrArg some fh11)) dX9_ends_29 ?_
      have hFc := va_free (wc := [(h0, .inr (11, mo g))]) hD hS hA [0] rfl
      refine va_callv (va_runV (As := [.int 1, .int (nI j)]) (rest := []) ⟨hx, hb, hml, hown, hts⟩ (c_X9_fail l dC dI h0 g b0 fh13 1 (nI j) (by decide) H.size) (cwV 2 hts gp_X9_ends_X9_fail_154 rfl rfl rfl (by decide +kernel) ⟨Nat.le_of_ble_eq_true rfl, Nat.le_of_ble_eq_true rfl⟩) ⟨Pr.blind _, va_recv hK hP (ci := 11) (q0 := 0) rfl rfl, fun U hU hW => ⟨rfl, Pr.at (hP.sub (ws' := [(h0, .inr (11, mo g))]) [0] rfl) (hK.sub (tys' := []) [] rfl) (hD.sub (ws' := [(h0, .inr (11, mo g))]) [0] (by decide) rfl) hN hZ RO.nil hS hFc hU hW⟩⟩ rfl rfl hl.1 rfl (lv_room (Nat.le_of_ble_eq_true rfl)) dX9_ends_32 ⟨Nat.le_of_ble_eq_true rfl, Nat.le_of_ble_eq_true rfl⟩) hS (fun q _ h => hFc q h) hFc (fun u t H1 locs ht hvm hw_7 hB hz1 hk1 hS => ?_)
      obtain ⟨g1_8, b1_9⟩ := u
      obtain ⟨hP, hD, hK⟩ := Bq.join (wr := [(a9, .inl (cT, 400, .inl f))]) hB ht hvm hP hD [0] [1] rfl rfl (by decide) (by decide) hk1 hFc hK
      generalize H1 = H at hP hS ⊢
      have hP : va_P (dC, dI) vwCl [(a9, .inl (cT, 400, .inl f)), (h0, .inr (11, mo g1_8))] H := hP
      have hD : va_D A [(a9, .inl (cT, 400, .inl f)), (h0, .inr (11, mo g1_8))] := hD
      have hK : va_K (dC, dI) vwCl [(cT, .int)] s := hK
      try dsimp only at hw_7
      obtain ⟨k_10, k_11, k_12⟩ := hw_7
      have w_13 : g1_8 9 = .ref a9 := (k_12 9 (by decide) (by decide)).trans fh9
      have w_14 : g1_8 11 = .int (nI j) := (k_12 11 (by decide) (by decide)).trans fh11
      have w_15 : g1_8 12 = .int (nI n) := (k_12 12 (by decide) (by decide)).trans fh12
      have un_16 : ∀ j : Nat, j ≠ 13 → j ≠ 14 → g1_8 j = g j := fun j h13 h14 => (k_12 j h13 h14)
      have hP9 := hP.sub (ws' := [(h0, .inr (11, mo g1_8)), (a9, .inl (cT, 400, .inl f))]) [1, 0] rfl
      have hD9 := hD.sub (ws' := [(h0, .inr (11, mo g1_8)), (a9, .inl (cT, 400, .inl f))]) [1, 0] (by decide) rfl
      have hK9 := hK.sub (tys' := []) [] rfl
      exact W.vret hx hb hr (fun t ht hW => ⟨⟨(g1_8, b1_9), rfl, ⟨Or.inr ⟨by rw [tat_at hlt]; exact ho, k_10⟩, k_11, (fun j h13 h14 => un_16 j h13 h14)⟩, by rw [ht]; exact hP9, va_K.moved hW.alike hK9, hD9⟩, hS.F ht⟩) hS.2.2 dX9_ends_35
    · refine W.eq (g2 := F0 m 23 ls [.int 0]) rfl ?_
      refine lv_if_eq (tgt := 35) hx hb dX9_ends_23 (by decide) (fun c_17 => ?_) (fun c_17 => absurd (by decide) c_17)
      have hP9 := hP.sub (ws' := [(h0, .inr (11, mo g)), (a9, .inl (cT, 400, .inl f))]) [0, 1] rfl
      have hD9 := hD.sub (ws' := [(h0, .inr (11, mo g)), (a9, .inl (cT, 400, .inl f))]) [0, 1] (by decide) rfl
      have hK9 := hK.sub (tys' := []) [] rfl
      exact W.vret hx hb hr (fun t ht hW => ⟨⟨(g, b0), rfl, ⟨Or.inl ⟨fun h => ho (by rw [tat_at hlt] at h; exact h), rfl⟩, fh13, (fun j h13 h14 => rfl)⟩, by rw [ht]; exact hP9, va_K.moved hW.alike hK9, hD9⟩, hS.F ht⟩) hS.2.2 dX9_ends_35
def wp_X9_wordEnd : List Cond := .code yX9_wordEnd cX9_wordEnd 2 (some .int) :: ([.fieldLink RX9 141 "RecordBenchModel" "at" "I", .fieldLink RX9 144 "RecordBenchModel" "size" "I", .fieldLink RX9 39 "RecordBenchModel" "tape" "[I", .methodLink RX9 165 yX9_isLetter, .static yX9_isLetter, .initialized RX9, .code yX9_isLetter cX9_isLetter 1 (some .boolean)] ++ wsX90)
set_option maxRecDepth 20000 in
theorem gp_X9_wordEnd_X9_isLetter_165 : GoodIn wp_X9_wordEnd (wsS RX9 165 yX9_isLetter wp_X9_isLetter) := goodIn_p _ [7] rfl (by decide +kernel)
set_option maxHeartbeats 4000000 in
set_option maxRecDepth 100000 in
theorem c_X9_wordEnd (l : Launch) (dC : Nat → ClassId) (dI : Nat → Nat → Nat) (h0 : Nat) (g : Nat → Value) (a9 : Nat) (cT : ClassId) (f : Nat → Int32) (j : Nat) (n : Nat) (fh9 : g 9 = .ref a9) (fh11 : g 11 = .int (nI j)) (fh12 : g 12 = .int (nI n)) (hj : j ≤ n) (hn : n ≤ 400) (sz : Nat) : Met l yX9_wordEnd wp_X9_wordEnd ({ frames := 1, cells := 0, slots := 0, locals := 24 }) (va_Pc [.ref h0] (Pr (dC, dI) [(cT, .int)] [] [(h0, .inr (11, mo g)), (a9, .inl (cT, 400, .inl f))] sz)) (va_Qi (fun r : Int32 => (fun _ : Unit => r = nI (twe f n j))) (Bq (dC, dI) (fun _ : Unit => [(h0, .inr (11, mo g)), (a9, .inl (cT, 400, .inl f))]) (fun _ : Unit => []) (va_A [(h0, .inr (11, mo g)), (a9, .inl (cT, 400, .inl f))] sz)) (va_A [(h0, .inr (11, mo g)), (a9, .inl (cT, 400, .inl f))] sz)) 0 0 (va_A [(h0, .inr (11, mo g)), (a9, .inl (cT, 400, .inl f))] sz) := by
  refine Met.ofW (cc := cX9_wordEnd) (maxL := 2) (ret := (some .int)) (by decide) rfl ?_
  intro p e s m args below meth c s₁ B hml hv
  obtain ⟨rfl, hsz, hP, hK, hD0, hN, hZ, hR⟩ := hv
  have hx := B.exec
  have hb := B.bytes
  have hr := B.returns
  have hts := atoms_spec (ws := wp_X9_wordEnd) B.pre
  have hown : s.vm.findClass RX9 = some m.cls := findClass_of_methodNamed B.named
  have hlocks := B.notSynchronized
  have iRX9 : ∀ w ∈ u_ws RX9 TX9 60, w ∈ wp_X9_wordEnd := by decide +kernel
  subst hsz
  have hD := hD0.self (sz := s.heap.size)
  generalize hAe : va_A [(h0, .inr (11, mo g)), (a9, .inl (cT, 400, .inl f))] s.heap.size = A at hD hZ hR ⊢
  have hA : ∀ q : Nat, s.heap.size ≤ q → A q := fun q h => by rw [← hAe]; exact Or.inr h
  have hS : va_S A s.heap s.heap [] := va_S.rf
  have hP : va_P (dC, dI) vwCl [(h0, .inr (11, mo g)), (a9, .inl (cT, 400, .inl f))] s.heap := hP
  have hl := lv_entry ([.ref h0]) (n := 2) (Nat.le_of_ble_eq_true rfl)
  rw [lg_entry_eq]
  generalize (lg_sl ([.ref h0]) ++ List.replicate (2 - (lg_sl ([.ref h0])).length) Slot.unset).toArray = ls at hl ⊢
  have hl : lv_has ls 2 [(0, .ref h0)] := hl
  refine lv_aload_n hx hb dX9_wordEnd_0 rfl (lv_at hl 0 rfl) ?_
  refine va_get (D := (dC, dI)) (ci := 11) (v := .int (nI j)) (C := RX9) (T := TX9) (N := 60) hx hb hts iRX9 hown hK hP 0 rfl rfl 11 (by decide) (hts (.fieldLink RX9 141 "RecordBenchModel" "at" "I") (by decide +kernel)) (fun _ h9 => h9) ((mo_get g (by decide)).trans (congrArg some fh11)) dX9_wordEnd_1 ?_
  refine lv_istore_n (lv' := [(1, .int (nI j)), (0, .ref h0)]) hx hb dX9_wordEnd_4 rfl hl (by decide) rfl (fun ls hl => ?_)
  refine W_loop (σ := Nat) (D := (dC, dI)) (A := A) [] (fun (i : Nat) => [(1, .int (nI i)), (0, .ref h0)]) (fun (i : Nat) => [(h0, .inr (11, mo g)), (a9, .inl (cT, 400, .inl f))]) (fun (i : Nat) => (i ≤ n) ∧ (twe f n i = twe f n j)) (fun (i : Nat) => n - i) ?_ j ⟨hj, rfl⟩ _ _ _ (hP.sub (ws' := [(h0, .inr (11, mo g)), (a9, .inl (cT, 400, .inl f))]) [0, 1] rfl) (hD.sub (ws' := [(h0, .inr (11, mo g)), (a9, .inl (cT, 400, .inl f))]) [0, 1] (by decide) rfl) hS (lv_sub hl [0, 1] rfl)
  intro u hI H locs ls hP hD hS hl ih
  obtain ⟨i, rfl⟩ : ∃ z, z = u := ⟨_, rfl⟩
  try dsimp only at hI
  obtain ⟨hi, hsk⟩ := hI
  have hP : va_P (dC, dI) vwCl [(h0, .inr (11, mo g)), (a9, .inl (cT, 400, .inl f))] H := hP
  have hD : va_D A [(h0, .inr (11, mo g)), (a9, .inl (cT, 400, .inl f))] := hD
  have hl : lv_has ls 2 [(1, .int (nI i)), (0, .ref h0)] := hl
  refine lv_iload_n hx hb dX9_wordEnd_5 rfl (lv_at hl 0 rfl) ?_
  refine lv_aload_n hx hb dX9_wordEnd_6 rfl (lv_at hl 1 rfl) ?_
  refine va_get (D := (dC, dI)) (ci := 11) (v := .int (nI n)) (C := RX9) (T := TX9) (N := 60) hx hb hts iRX9 hown hK hP 0 rfl rfl 12 (by decide) (hts (.fieldLink RX9 144 "RecordBenchModel" "size" "I") (by decide +kernel)) (fun _ h9 => h9) ((mo_get g (by decide)).trans (congrArg some fh12)) dX9_wordEnd_7 ?_
  refine lv_icmp_ge (tgt := 31) hx hb dX9_wordEnd_10 (by decide) (fun c_1 => ?_) (fun c_1 => ?_)
  · refine lv_iload_n hx hb dX9_wordEnd_31 rfl (lv_at hl 0 rfl) ?_
    have hP9 := hP.sub (ws' := [(h0, .inr (11, mo g)), (a9, .inl (cT, 400, .inl f))]) [0, 1] rfl
    have hD9 := hD.sub (ws' := [(h0, .inr (11, mo g)), (a9, .inl (cT, 400, .inl f))]) [0, 1] (by decide) rfl
    have hK9 := hK.sub (tys' := []) [] rfl
    exact W.iret (v := nI i) hx hb hr (fun t ht hW => ⟨⟨nI i, (), rfl, by rw [← hsk, twe_no (fun h => absurd h.1 (by have := nI_leN (by omega) (by omega) c_1; omega))], by rw [ht]; exact hP9, va_K.moved hW.alike hK9, hD9⟩, hS.F ht⟩) hS.2.2 dX9_wordEnd_32
  · have hlt : i < n := nI_ltN (by omega) (by omega) c_1
    refine lv_aload_n hx hb dX9_wordEnd_13 rfl (lv_at hl 1 rfl) ?_
    refine va_get (D := (dC, dI)) (ci := 11) (v := .ref a9) (C := RX9) (T := TX9) (N := 60) hx hb hts iRX9 hown hK hP 0 rfl rfl 9 (by decide) (hts (.fieldLink RX9 39 "RecordBenchModel" "tape" "[I") (by decide +kernel)) (fun _ h9 => h9) ((mo_get g (by decide)).trans (congrArg some fh9)) dX9_wordEnd_14 ?_
    refine lv_iload_n hx hb dX9_wordEnd_17 rfl (lv_at hl 0 rfl) ?_
    refine va_iald hx hb hK hP 1 0 rfl rfl (vp_in_nI (by omega) (by decide)) dX9_wordEnd_18 ?_
    refine W_toi (y := f i) (by rw [nI_clamp (by omega)]) ?_
    have hFc := va_free (wc := []) hD hS hA [] rfl
    refine va_calli (va_runS (As := [.int (f i)]) (rest := []) ⟨hx, hb, hml, hown, hts⟩ (c_X9_isLetter l dC dI (f i) H.size) (cwS 1 hts gp_X9_wordEnd_X9_isLetter_165 rfl rfl rfl (by decide +kernel) ⟨Nat.le_of_ble_eq_true rfl, Nat.le_of_ble_eq_true rfl⟩) ⟨Pr.blind _, fun U hU hW => ⟨rfl, Pr.at (hP.sub (ws' := []) [] rfl) (hK.sub (tys' := []) [] rfl) (hD.sub (ws' := []) [] (by decide) rfl) hN hZ RO.nil hS hFc hU hW⟩⟩ rfl rfl hl.1 rfl (lv_room (Nat.le_of_ble_eq_true rfl)) dX9_wordEnd_19 ⟨Nat.le_of_ble_eq_true rfl, Nat.le_of_ble_eq_true rfl⟩) hS (fun q _ h => hFc q h) hFc (fun r_2 u t H1 locs ht hvm hw_3 hB hz1 hk1 hS => ?_)
    obtain ⟨hP, hD, hK⟩ := Bq.join (wr := [(h0, .inr (11, mo g)), (a9, .inl (cT, 400, .inl f))]) hB ht hvm hP hD [] [0, 1] rfl rfl (by decide) (by decide) hk1 hFc hK
    generalize H1 = H at hP hS ⊢
    have hP : va_P (dC, dI) vwCl [(h0, .inr (11, mo g)), (a9, .inl (cT, 400, .inl f))] H := hP
    have hD : va_D A [(h0, .inr (11, mo g)), (a9, .inl (cT, 400, .inl f))] := hD
    have hK : va_K (dC, dI) vwCl [(cT, .int)] s := hK
    try dsimp only at hw_3
    have k_4 := hw_3
    rcases k_4 with ⟨ho, rfl⟩ | ⟨ho, rfl⟩
    · refine W.eq (g2 := F0 m 22 ls [.int 1]) rfl ?_
      refine lv_if_eq (tgt := 31) hx hb dX9_wordEnd_22 (by decide) (fun c_5 => absurd c_5 (by decide)) (fun c_5 => ?_)
      refine lv_iinc (v := nI (i + 1)) (lv' := [(1, .int (nI (i + 1))), (0, .ref h0)]) hx hb dX9_wordEnd_25 hl (k := 0) rfl (nI_1 i) (by decide) rfl (fun ls hl => ?_)
      refine lv_goto (tgt := 5) hx hb dX9_wordEnd_28 (by decide) ?_
      exact ih (i + 1) (by show n - (i + 1) < n - i; omega) ⟨(by omega), ((twe_go hlt ho).symm.trans hsk)⟩ _ _ _ (hP.sub (ws' := [(h0, .inr (11, mo g)), (a9, .inl (cT, 400, .inl f))]) [0, 1] rfl) (hD.sub (ws' := [(h0, .inr (11, mo g)), (a9, .inl (cT, 400, .inl f))]) [0, 1] (by decide) rfl) hS (lv_sub hl [0, 1] rfl)
    · refine W.eq (g2 := F0 m 22 ls [.int 0]) rfl ?_
      refine lv_if_eq (tgt := 31) hx hb dX9_wordEnd_22 (by decide) (fun c_6 => ?_) (fun c_6 => absurd (by decide) c_6)
      refine lv_iload_n hx hb dX9_wordEnd_31 rfl (lv_at hl 0 rfl) ?_
      have hP9 := hP.sub (ws' := [(h0, .inr (11, mo g)), (a9, .inl (cT, 400, .inl f))]) [0, 1] rfl
      have hD9 := hD.sub (ws' := [(h0, .inr (11, mo g)), (a9, .inl (cT, 400, .inl f))]) [0, 1] (by decide) rfl
      have hK9 := hK.sub (tys' := []) [] rfl
      exact W.iret (v := nI i) hx hb hr (fun t ht hW => ⟨⟨nI i, (), rfl, by rw [← hsk, twe_no (fun h => ho h.2)], by rw [ht]; exact hP9, va_K.moved hW.alike hK9, hD9⟩, hS.F ht⟩) hS.2.2 dX9_wordEnd_32
def wp_X9_takes : List Cond := .code yX9_takes cX9_takes 1 none :: ([.fieldLink RX9 141 "RecordBenchModel" "at" "I", .fieldLink RX9 162 "RecordBenchModel" "ended" "I", .methodLink RX9 172 yX9_wordEnd, .instanceMethod yX9_wordEnd, .selects RX9 yX9_wordEnd yX9_wordEnd, .initialized RX9, .methodLink RX9 154 yX9_fail, .instanceMethod yX9_fail, .selects RX9 yX9_fail yX9_fail, .code yX9_wordEnd cX9_wordEnd 2 (some .int), .fieldLink RX9 144 "RecordBenchModel" "size" "I", .fieldLink RX9 39 "RecordBenchModel" "tape" "[I", .methodLink RX9 165 yX9_isLetter, .static yX9_isLetter, .code yX9_isLetter cX9_isLetter 1 (some .boolean), .code yX9_fail cX9_fail 3 none, .fieldLink RX9 135 "RecordBenchModel" "bad" "I", .fieldLink RX9 138 "RecordBenchModel" "badPlace" "I"] ++ wsX90)
set_option maxRecDepth 20000 in
theorem gp_X9_takes_X9_wordEnd_172 : GoodIn wp_X9_takes (wsV RX9 172 RX9 yX9_wordEnd wp_X9_wordEnd) := goodIn_p _ [10, 15] rfl (by decide +kernel)
set_option maxRecDepth 20000 in
theorem gp_X9_takes_X9_fail_154 : GoodIn wp_X9_takes (wsV RX9 154 RX9 yX9_fail wp_X9_fail) := goodIn_p _ [16] rfl (by decide +kernel)
set_option maxHeartbeats 4000000 in
set_option maxRecDepth 100000 in
theorem c_X9_takes (l : Launch) (dC : Nat → ClassId) (dI : Nat → Nat → Nat) (h0 : Nat) (g : Nat → Value) (a9 : Nat) (cT : ClassId) (f : Nat → Int32) (j : Nat) (n : Nat) (b0 : Int32) (x18 : Int32) (fh9 : g 9 = .ref a9) (fh11 : g 11 = .int (nI j)) (fh12 : g 12 = .int (nI n)) (fh13 : g 13 = .int b0) (fh18 : g 18 = .int x18) (hj : j ≤ n) (hn : n ≤ 400) (sz : Nat) : Met l yX9_takes wp_X9_takes ({ frames := 2, cells := 0, slots := 0, locals := 49 }) (va_Pc [.ref h0] (Pr (dC, dI) [(cT, .int)] [] [(h0, .inr (11, mo g)), (a9, .inl (cT, 400, .inl f))] sz)) (va_Qv (fun (u : (Nat → Value) × Int32) => match u with | (g1, b1) => ((x18 ≠ nI j ∧ b0 = b1) ∨ (x18 = nI j ∧ b1 ≠ 0)) ∧ (g1 11 = .int (nI (twe f n j))) ∧ (g1 13 = .int b1) ∧ (g1 18 = .int (nI (twe f n j))) ∧ (∀ j : Nat, j ≠ 11 → j ≠ 13 → j ≠ 14 → j ≠ 18 → g1 j = g j)) (Bq (dC, dI) (fun (u : (Nat → Value) × Int32) => match u with | (g1, b1) => [(h0, .inr (11, mo g1)), (a9, .inl (cT, 400, .inl f))]) (fun (u : (Nat → Value) × Int32) => match u with | (g1, b1) => []) (va_A [(h0, .inr (11, mo g)), (a9, .inl (cT, 400, .inl f))] sz)) (va_A [(h0, .inr (11, mo g)), (a9, .inl (cT, 400, .inl f))] sz)) 0 0 (va_A [(h0, .inr (11, mo g)), (a9, .inl (cT, 400, .inl f))] sz) := by
  refine Met.ofW (cc := cX9_takes) (maxL := 1) (ret := none) (by decide) rfl ?_
  intro p e s m args below meth c s₁ B hml hv
  obtain ⟨rfl, hsz, hP, hK, hD0, hN, hZ, hR⟩ := hv
  have hx := B.exec
  have hb := B.bytes
  have hr := B.returns
  have hts := atoms_spec (ws := wp_X9_takes) B.pre
  have hown : s.vm.findClass RX9 = some m.cls := findClass_of_methodNamed B.named
  have hlocks := B.notSynchronized
  have iRX9 : ∀ w ∈ u_ws RX9 TX9 60, w ∈ wp_X9_takes := by decide +kernel
  subst hsz
  have hD := hD0.self (sz := s.heap.size)
  generalize hAe : va_A [(h0, .inr (11, mo g)), (a9, .inl (cT, 400, .inl f))] s.heap.size = A at hD hZ hR ⊢
  have hA : ∀ q : Nat, s.heap.size ≤ q → A q := fun q h => by rw [← hAe]; exact Or.inr h
  have hS : va_S A s.heap s.heap [] := va_S.rf
  have hP : va_P (dC, dI) vwCl [(h0, .inr (11, mo g)), (a9, .inl (cT, 400, .inl f))] s.heap := hP
  have hl := lv_entry ([.ref h0]) (n := 1) (Nat.le_of_ble_eq_true rfl)
  rw [lg_entry_eq]
  generalize (lg_sl ([.ref h0]) ++ List.replicate (1 - (lg_sl ([.ref h0])).length) Slot.unset).toArray = ls at hl ⊢
  have hl : lv_has ls 1 [(0, .ref h0)] := hl
  refine lv_aload_n hx hb dX9_takes_0 rfl (lv_at hl 0 rfl) ?_
  refine va_get (D := (dC, dI)) (ci := 11) (v := .int (nI j)) (C := RX9) (T := TX9) (N := 60) hx hb hts iRX9 hown hK hP 0 rfl rfl 11 (by decide) (hts (.fieldLink RX9 141 "RecordBenchModel" "at" "I") (by decide +kernel)) (fun _ h9 => h9) ((mo_get g (by decide)).trans (congrArg some fh11)) dX9_takes_1 ?_
  refine lv_aload_n hx hb dX9_takes_4 rfl (lv_at hl 0 rfl) ?_
  refine va_get (D := (dC, dI)) (ci := 11) (v := .int x18) (C := RX9) (T := TX9) (N := 60) hx hb hts iRX9 hown hK hP 0 rfl rfl 18 (by decide) (hts (.fieldLink RX9 162 "RecordBenchModel" "ended" "I") (by decide +kernel)) (fun _ h9 => h9) ((mo_get g (by decide)).trans (congrArg some fh18)) dX9_takes_5 ?_
  refine lv_icmp_ne (tgt := 20) hx hb dX9_takes_8 (by decide) (fun c_1 => ?_) (fun c_1 => ?_)
  · refine lv_aload_n hx hb dX9_takes_20 rfl (lv_at hl 0 rfl) ?_
    refine lv_aload_n hx hb dX9_takes_21 rfl (lv_at hl 0 rfl) ?_
    have hFc := va_free (wc := [(h0, .inr (11, mo g)), (a9, .inl (cT, 400, .inl f))]) hD hS hA [0, 1] rfl
    refine va_calli (va_runV (As := []) (rest := [.ref h0]) ⟨hx, hb, hml, hown, hts⟩ (c_X9_wordEnd l dC dI h0 g a9 cT f j n fh9 fh11 fh12 (by omega) (by omega) s.heap.size) (cwV 0 hts gp_X9_takes_X9_wordEnd_172 rfl rfl rfl (by decide +kernel) ⟨Nat.le_of_ble_eq_true rfl, Nat.le_of_ble_eq_true rfl⟩) ⟨Pr.blind _, va_recv hK hP (ci := 11) (q0 := 0) rfl rfl, fun U hU hW => ⟨rfl, Pr.at (hP.sub (ws' := [(h0, .inr (11, mo g)), (a9, .inl (cT, 400, .inl f))]) [0, 1] rfl) (hK.sub (tys' := [(cT, .int)]) [0] rfl) (hD.sub (ws' := [(h0, .inr (11, mo g)), (a9, .inl (cT, 400, .inl f))]) [0, 1] (by decide) rfl) hN hZ RO.nil hS hFc hU hW⟩⟩ rfl rfl hl.1 rfl (lv_room (Nat.le_of_ble_eq_true rfl)) dX9_takes_22 ⟨Nat.le_of_ble_eq_true rfl, Nat.le_of_ble_eq_true rfl⟩) hS (fun q _ h => hFc q h) hFc (fun r_2 u t H1 locs ht hvm hw_3 hB hz1 hk1 hS => ?_)
    obtain ⟨hP, hD, hK⟩ := Bq.join (wr := []) hB ht hvm hP hD [0, 1] [] rfl rfl (by decide) (by decide) hk1 hFc hK
    generalize H1 = H at hP hS ⊢
    have hP : va_P (dC, dI) vwCl [(h0, .inr (11, mo g)), (a9, .inl (cT, 400, .inl f))] H := hP
    have hD : va_D A [(h0, .inr (11, mo g)), (a9, .inl (cT, 400, .inl f))] := hD
    have hK : va_K (dC, dI) vwCl [(cT, .int)] s := hK
    try dsimp only at hw_3
    have k_4 := hw_3
    refine W_toi (y := nI (twe f n j)) k_4 ?_
    refine va_put (D := (dC, dI)) (ci := 11) (v := .int (nI (twe f n j))) (ty := .int) (C := RX9) (T := TX9) (N := 60) hx hb hts iRX9 tyX9 tyX9_ok nmX9 hown hK hP hD hS 0 rfl rfl 11 (by decide) (hts (.fieldLink RX9 141 "RecordBenchModel" "at" "I") (by decide +kernel)) (fun _ h9 => h9) rfl (by decide +kernel) rfl rfl (by rw [mo_len]; decide) dX9_takes_25 (fun H locs hP hD hS => ?_)
    obtain ⟨g_5, eg_5⟩ : ∃ y, y = va_up g 11 (.int (nI (twe f n j))) := ⟨_, rfl⟩
    have hP : va_P (dC, dI) vwCl [(h0, .inr (11, mo g_5)), (a9, .inl (cT, 400, .inl f))] H := by rw [eg_5, ← mo_set g (by decide)]; exact hP
    have hD : va_D A [(h0, .inr (11, mo g_5)), (a9, .inl (cT, 400, .inl f))] := by rw [eg_5, ← mo_set g (by decide)]; exact hD
    have g_5h9 : g_5 9 = .ref a9 := by rw [eg_5, va_up_ne _ _ (by decide)]; exact fh9
    have g_5h12 : g_5 12 = .int (nI n) := by rw [eg_5, va_up_ne _ _ (by decide)]; exact fh12
    have g_5h13 : g_5 13 = .int b0 := by rw [eg_5, va_up_ne _ _ (by decide)]; exact fh13
    have g_5h18 : g_5 18 = .int x18 := by rw [eg_5, va_up_ne _ _ (by decide)]; exact fh18
    have g_5h11 : g_5 11 = .int (nI (twe f n j)) := by rw [eg_5, va_up_self]
    have ung_5 : ∀ j : Nat, j ≠ 11 → g_5 j = g j := fun j h11 => by rw [eg_5, va_up_ne _ _ h11]
    refine lv_aload_n hx hb dX9_takes_28 rfl (lv_at hl 0 rfl) ?_
    refine lv_aload_n hx hb dX9_takes_29 rfl (lv_at hl 0 rfl) ?_
    refine va_get (D := (dC, dI)) (ci := 11) (v := .int (nI (twe f n j))) (C := RX9) (T := TX9) (N := 60) hx hb hts iRX9 hown hK hP 0 rfl rfl 11 (by decide) (hts (.fieldLink RX9 141 "RecordBenchModel" "at" "I") (by decide +kernel)) (fun _ h9 => h9) ((mo_get g_5 (by decide)).trans (congrArg some g_5h11)) dX9_takes_30 ?_
    refine va_put (D := (dC, dI)) (ci := 11) (v := .int (nI (twe f n j))) (ty := .int) (C := RX9) (T := TX9) (N := 60) hx hb hts iRX9 tyX9 tyX9_ok nmX9 hown hK hP hD hS 0 rfl rfl 18 (by decide) (hts (.fieldLink RX9 162 "RecordBenchModel" "ended" "I") (by decide +kernel)) (fun _ h9 => h9) rfl (by decide +kernel) rfl rfl (by rw [mo_len]; decide) dX9_takes_33 (fun H locs hP hD hS => ?_)
    obtain ⟨g_6, eg_6⟩ : ∃ y, y = va_up g_5 18 (.int (nI (twe f n j))) := ⟨_, rfl⟩
    have hP : va_P (dC, dI) vwCl [(h0, .inr (11, mo g_6)), (a9, .inl (cT, 400, .inl f))] H := by rw [eg_6, ← mo_set g_5 (by decide)]; exact hP
    have hD : va_D A [(h0, .inr (11, mo g_6)), (a9, .inl (cT, 400, .inl f))] := by rw [eg_6, ← mo_set g_5 (by decide)]; exact hD
    have g_6h9 : g_6 9 = .ref a9 := by rw [eg_6, va_up_ne _ _ (by decide)]; exact g_5h9
    have g_6h12 : g_6 12 = .int (nI n) := by rw [eg_6, va_up_ne _ _ (by decide)]; exact g_5h12
    have g_6h13 : g_6 13 = .int b0 := by rw [eg_6, va_up_ne _ _ (by decide)]; exact g_5h13
    have g_6h11 : g_6 11 = .int (nI (twe f n j)) := by rw [eg_6, va_up_ne _ _ (by decide)]; exact g_5h11
    have g_6h18 : g_6 18 = .int (nI (twe f n j)) := by rw [eg_6, va_up_self]
    have ung_6 : ∀ j : Nat, j ≠ 11 → j ≠ 18 → g_6 j = g j := fun j h11 h18 => by rw [eg_6, va_up_ne _ _ h18]; exact ung_5 j h11
    have hP9 := hP.sub (ws' := [(h0, .inr (11, mo g_6)), (a9, .inl (cT, 400, .inl f))]) [0, 1] rfl
    have hD9 := hD.sub (ws' := [(h0, .inr (11, mo g_6)), (a9, .inl (cT, 400, .inl f))]) [0, 1] (by decide) rfl
    have hK9 := hK.sub (tys' := []) [] rfl
    exact W.vret hx hb hr (fun t ht hW => ⟨⟨(g_6, b0), rfl, ⟨Or.inl ⟨fun h => c_1 h.symm, rfl⟩, g_6h11, g_6h13, g_6h18, (fun j h11 h13 h14 h18 => ung_6 j h11 h18)⟩, by rw [ht]; exact hP9, va_K.moved hW.alike hK9, hD9⟩, hS.F ht⟩) hS.2.2 dX9_takes_36
  · refine lv_aload_n hx hb dX9_takes_11 rfl (lv_at hl 0 rfl) ?_
    refine lv_iconst (v := 1) hx hb dX9_takes_12 (by decide) ?_
    refine lv_aload_n hx hb dX9_takes_13 rfl (lv_at hl 0 rfl) ?_
    refine va_get (D := (dC, dI)) (ci := 11) (v := .int (nI j)) (C := RX9) (T := TX9) (N := 60) hx hb hts iRX9 hown hK hP 0 rfl rfl 11 (by decide) (hts (.fieldLink RX9 141 "RecordBenchModel" "at" "I") (by decide +kernel)) (fun _ h9 => h9) ((mo_get g (by decide)).trans (congrArg some fh11)) dX9_takes_14 ?_
    have hFc := va_free (wc := [(h0, .inr (11, mo g))]) hD hS hA [0] rfl
    refine va_callv (va_runV (As := [.int 1, .int (nI j)]) (rest := []) ⟨hx, hb, hml, hown, hts⟩ (c_X9_fail l dC dI h0 g b0 fh13 1 (nI j) (by decide) s.heap.size) (cwV 2 hts gp_X9_takes_X9_fail_154 rfl rfl rfl (by decide +kernel) ⟨Nat.le_of_ble_eq_true rfl, Nat.le_of_ble_eq_true rfl⟩) ⟨Pr.blind _, va_recv hK hP (ci := 11) (q0 := 0) rfl rfl, fun U hU hW => ⟨rfl, Pr.at (hP.sub (ws' := [(h0, .inr (11, mo g))]) [0] rfl) (hK.sub (tys' := []) [] rfl) (hD.sub (ws' := [(h0, .inr (11, mo g))]) [0] (by decide) rfl) hN hZ RO.nil hS hFc hU hW⟩⟩ rfl rfl hl.1 rfl (lv_room (Nat.le_of_ble_eq_true rfl)) dX9_takes_17 ⟨Nat.le_of_ble_eq_true rfl, Nat.le_of_ble_eq_true rfl⟩) hS (fun q _ h => hFc q h) hFc (fun u t H1 locs ht hvm hw_8 hB hz1 hk1 hS => ?_)
    obtain ⟨g1_9, b1_10⟩ := u
    obtain ⟨hP, hD, hK⟩ := Bq.join (wr := [(a9, .inl (cT, 400, .inl f))]) hB ht hvm hP hD [0] [1] rfl rfl (by decide) (by decide) hk1 hFc hK
    generalize H1 = H at hP hS ⊢
    have hP : va_P (dC, dI) vwCl [(a9, .inl (cT, 400, .inl f)), (h0, .inr (11, mo g1_9))] H := hP
    have hD : va_D A [(a9, .inl (cT, 400, .inl f)), (h0, .inr (11, mo g1_9))] := hD
    have hK : va_K (dC, dI) vwCl [(cT, .int)] s := hK
    try dsimp only at hw_8
    obtain ⟨k_11, k_12, k_13⟩ := hw_8
    have w_14 : g1_9 9 = .ref a9 := (k_13 9 (by decide) (by decide)).trans fh9
    have w_15 : g1_9 11 = .int (nI j) := (k_13 11 (by decide) (by decide)).trans fh11
    have w_16 : g1_9 12 = .int (nI n) := (k_13 12 (by decide) (by decide)).trans fh12
    have w_17 : g1_9 18 = .int x18 := (k_13 18 (by decide) (by decide)).trans fh18
    have un_18 : ∀ j : Nat, j ≠ 13 → j ≠ 14 → g1_9 j = g j := fun j h13 h14 => (k_13 j h13 h14)
    refine lv_aload_n hx hb dX9_takes_20 rfl (lv_at hl 0 rfl) ?_
    refine lv_aload_n hx hb dX9_takes_21 rfl (lv_at hl 0 rfl) ?_
    have hFc := va_free (wc := [(h0, .inr (11, mo g1_9)), (a9, .inl (cT, 400, .inl f))]) hD hS hA [1, 0] rfl
    refine va_calli (va_runV (As := []) (rest := [.ref h0]) ⟨hx, hb, hml, hown, hts⟩ (c_X9_wordEnd l dC dI h0 g1_9 a9 cT f j n w_14 w_15 w_16 (by omega) (by omega) H.size) (cwV 0 hts gp_X9_takes_X9_wordEnd_172 rfl rfl rfl (by decide +kernel) ⟨Nat.le_of_ble_eq_true rfl, Nat.le_of_ble_eq_true rfl⟩) ⟨Pr.blind _, va_recv hK hP (ci := 11) (q0 := 1) rfl rfl, fun U hU hW => ⟨rfl, Pr.at (hP.sub (ws' := [(h0, .inr (11, mo g1_9)), (a9, .inl (cT, 400, .inl f))]) [1, 0] rfl) (hK.sub (tys' := [(cT, .int)]) [0] rfl) (hD.sub (ws' := [(h0, .inr (11, mo g1_9)), (a9, .inl (cT, 400, .inl f))]) [1, 0] (by decide) rfl) hN hZ RO.nil hS hFc hU hW⟩⟩ rfl rfl hl.1 rfl (lv_room (Nat.le_of_ble_eq_true rfl)) dX9_takes_22 ⟨Nat.le_of_ble_eq_true rfl, Nat.le_of_ble_eq_true rfl⟩) hS (fun q _ h => hFc q h) hFc (fun r_19 u t H1 locs ht hvm hw_20 hB hz1 hk1 hS => ?_)
    obtain ⟨hP, hD, hK⟩ := Bq.join (wr := []) hB ht hvm hP hD [1, 0] [] rfl rfl (by decide) (by decide) hk1 hFc hK
    generalize H1 = H at hP hS ⊢
    have hP : va_P (dC, dI) vwCl [(h0, .inr (11, mo g1_9)), (a9, .inl (cT, 400, .inl f))] H := hP
    have hD : va_D A [(h0, .inr (11, mo g1_9)), (a9, .inl (cT, 400, .inl f))] := hD
    have hK : va_K (dC, dI) vwCl [(cT, .int)] s := hK
    try dsimp only at hw_20
    have k_21 := hw_20
    refine W_toi (y := nI (twe f n j)) k_21 ?_
    refine va_put (D := (dC, dI)) (ci := 11) (v := .int (nI (twe f n j))) (ty := .int) (C := RX9) (T := TX9) (N := 60) hx hb hts iRX9 tyX9 tyX9_ok nmX9 hown hK hP hD hS 0 rfl rfl 11 (by decide) (hts (.fieldLink RX9 141 "RecordBenchModel" "at" "I") (by decide +kernel)) (fun _ h9 => h9) rfl (by decide +kernel) rfl rfl (by rw [mo_len]; decide) dX9_takes_25 (fun H locs hP hD hS => ?_)
    obtain ⟨g_22, eg_22⟩ : ∃ y, y = va_up g1_9 11 (.int (nI (twe f n j))) := ⟨_, rfl⟩
    have hP : va_P (dC, dI) vwCl [(h0, .inr (11, mo g_22)), (a9, .inl (cT, 400, .inl f))] H := by rw [eg_22, ← mo_set g1_9 (by decide)]; exact hP
    have hD : va_D A [(h0, .inr (11, mo g_22)), (a9, .inl (cT, 400, .inl f))] := by rw [eg_22, ← mo_set g1_9 (by decide)]; exact hD
    have g_22h13 : g_22 13 = .int b1_10 := by rw [eg_22, va_up_ne _ _ (by decide)]; exact k_12
    have g_22h9 : g_22 9 = .ref a9 := by rw [eg_22, va_up_ne _ _ (by decide)]; exact w_14
    have g_22h12 : g_22 12 = .int (nI n) := by rw [eg_22, va_up_ne _ _ (by decide)]; exact w_16
    have g_22h18 : g_22 18 = .int x18 := by rw [eg_22, va_up_ne _ _ (by decide)]; exact w_17
    have g_22h11 : g_22 11 = .int (nI (twe f n j)) := by rw [eg_22, va_up_self]
    have ung_22 : ∀ j : Nat, j ≠ 11 → j ≠ 13 → j ≠ 14 → g_22 j = g j := fun j h11 h13 h14 => by rw [eg_22, va_up_ne _ _ h11]; exact un_18 j h13 h14
    refine lv_aload_n hx hb dX9_takes_28 rfl (lv_at hl 0 rfl) ?_
    refine lv_aload_n hx hb dX9_takes_29 rfl (lv_at hl 0 rfl) ?_
    refine va_get (D := (dC, dI)) (ci := 11) (v := .int (nI (twe f n j))) (C := RX9) (T := TX9) (N := 60) hx hb hts iRX9 hown hK hP 0 rfl rfl 11 (by decide) (hts (.fieldLink RX9 141 "RecordBenchModel" "at" "I") (by decide +kernel)) (fun _ h9 => h9) ((mo_get g_22 (by decide)).trans (congrArg some g_22h11)) dX9_takes_30 ?_
    refine va_put (D := (dC, dI)) (ci := 11) (v := .int (nI (twe f n j))) (ty := .int) (C := RX9) (T := TX9) (N := 60) hx hb hts iRX9 tyX9 tyX9_ok nmX9 hown hK hP hD hS 0 rfl rfl 18 (by decide) (hts (.fieldLink RX9 162 "RecordBenchModel" "ended" "I") (by decide +kernel)) (fun _ h9 => h9) rfl (by decide +kernel) rfl rfl (by rw [mo_len]; decide) dX9_takes_33 (fun H locs hP hD hS => ?_)
    obtain ⟨g_23, eg_23⟩ : ∃ y, y = va_up g_22 18 (.int (nI (twe f n j))) := ⟨_, rfl⟩
    have hP : va_P (dC, dI) vwCl [(h0, .inr (11, mo g_23)), (a9, .inl (cT, 400, .inl f))] H := by rw [eg_23, ← mo_set g_22 (by decide)]; exact hP
    have hD : va_D A [(h0, .inr (11, mo g_23)), (a9, .inl (cT, 400, .inl f))] := by rw [eg_23, ← mo_set g_22 (by decide)]; exact hD
    have g_23h13 : g_23 13 = .int b1_10 := by rw [eg_23, va_up_ne _ _ (by decide)]; exact g_22h13
    have g_23h9 : g_23 9 = .ref a9 := by rw [eg_23, va_up_ne _ _ (by decide)]; exact g_22h9
    have g_23h12 : g_23 12 = .int (nI n) := by rw [eg_23, va_up_ne _ _ (by decide)]; exact g_22h12
    have g_23h11 : g_23 11 = .int (nI (twe f n j)) := by rw [eg_23, va_up_ne _ _ (by decide)]; exact g_22h11
    have g_23h18 : g_23 18 = .int (nI (twe f n j)) := by rw [eg_23, va_up_self]
    have ung_23 : ∀ j : Nat, j ≠ 11 → j ≠ 13 → j ≠ 14 → j ≠ 18 → g_23 j = g j := fun j h11 h13 h14 h18 => by rw [eg_23, va_up_ne _ _ h18]; exact ung_22 j h11 h13 h14
    have hP9 := hP.sub (ws' := [(h0, .inr (11, mo g_23)), (a9, .inl (cT, 400, .inl f))]) [0, 1] rfl
    have hD9 := hD.sub (ws' := [(h0, .inr (11, mo g_23)), (a9, .inl (cT, 400, .inl f))]) [0, 1] (by decide) rfl
    have hK9 := hK.sub (tys' := []) [] rfl
    exact W.vret hx hb hr (fun t ht hW => ⟨⟨(g_23, b1_10), rfl, ⟨Or.inr ⟨c_1.symm, k_11⟩, g_23h11, g_23h13, g_23h18, (fun j h11 h13 h14 h18 => ung_23 j h11 h13 h14 h18)⟩, by rw [ht]; exact hP9, va_K.moved hW.alike hK9, hD9⟩, hS.F ht⟩) hS.2.2 dX9_takes_36
