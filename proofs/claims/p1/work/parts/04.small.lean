theorem dJ4_init_da8c8_0 : decode cJ4_init_da8c8 0 = .ok (.aload_n 0, 1) := by decide +kernel
theorem dJ4_init_da8c8_1 : decode cJ4_init_da8c8 1 = .ok (.bipush 16, 2) := by decide +kernel
theorem dJ4_init_da8c8_3 : decode cJ4_init_da8c8 3 = .ok (.invokespecial 1, 3) := by decide +kernel
theorem dJ4_init_da8c8_6 : decode cJ4_init_da8c8 6 = .ok (.return_, 1) := by decide +kernel
theorem dJ5_init_d00df_0 : decode cJ5_init_d00df 0 = .ok (.aload_n 0, 1) := by decide +kernel
theorem dJ5_init_d00df_1 : decode cJ5_init_d00df 1 = .ok (.invokespecial 3, 3) := by decide +kernel
theorem dJ5_init_d00df_10 : decode cJ5_init_d00df 10 = .ok (.aload_n 0, 1) := by decide +kernel
theorem dJ5_init_d00df_11 : decode cJ5_init_d00df 11 = .ok (.iload_n 1, 1) := by decide +kernel
theorem dJ5_init_d00df_12 : decode cJ5_init_d00df 12 = .ok (.newarray .byte, 2) := by decide +kernel
theorem dJ5_init_d00df_14 : decode cJ5_init_d00df 14 = .ok (.putfield 15, 3) := by decide +kernel
theorem dJ5_init_d00df_17 : decode cJ5_init_d00df 17 = .ok (.aload_n 0, 1) := by decide +kernel
theorem dJ5_init_d00df_18 : decode cJ5_init_d00df 18 = .ok (.iconst 0, 1) := by decide +kernel
theorem dJ5_init_d00df_19 : decode cJ5_init_d00df 19 = .ok (.putfield 22, 3) := by decide +kernel
theorem dJ5_init_d00df_22 : decode cJ5_init_d00df 22 = .ok (.goto 16, 3) := by decide +kernel
theorem dJ5_init_d00df_38 : decode cJ5_init_d00df 38 = .ok (.return_, 1) := by decide +kernel
theorem dJ5_init_d00df_4 : decode cJ5_init_d00df 4 = .ok (.getstatic 18, 3) := by decide +kernel
theorem dJ5_init_d00df_7 : decode cJ5_init_d00df 7 = .ok (.ifCond .eq 18, 3) := by decide +kernel
theorem dX1_count_0 : decode cX1_count 0 = .ok (.aload_n 0, 1) := by decide +kernel
theorem dX1_count_1 : decode cX1_count 1 = .ok (.getfield 17, 3) := by decide +kernel
theorem dX1_count_4 : decode cX1_count 4 = .ok (.ireturn, 1) := by decide +kernel
theorem dX1_init_0 : decode cX1_init 0 = .ok (.aload_n 0, 1) := by decide +kernel
theorem dX1_init_1 : decode cX1_init 1 = .ok (.invokespecial 3, 3) := by decide +kernel
theorem dX1_init_10 : decode cX1_init 10 = .ok (.putfield 11, 3) := by decide +kernel
theorem dX1_init_13 : decode cX1_init 13 = .ok (.aload_n 0, 1) := by decide +kernel
theorem dX1_init_14 : decode cX1_init 14 = .ok (.iconst 0, 1) := by decide +kernel
theorem dX1_init_15 : decode cX1_init 15 = .ok (.putfield 17, 3) := by decide +kernel
theorem dX1_init_18 : decode cX1_init 18 = .ok (.return_, 1) := by decide +kernel
theorem dX1_init_4 : decode cX1_init 4 = .ok (.aload_n 0, 1) := by decide +kernel
theorem dX1_init_5 : decode cX1_init 5 = .ok (.bipush 31, 2) := by decide +kernel
theorem dX1_init_7 : decode cX1_init 7 = .ok (.anewarray 9, 3) := by decide +kernel
theorem dX2_init_0 : decode cX2_init 0 = .ok (.aload_n 0, 1) := by decide +kernel
theorem dX2_init_1 : decode cX2_init 1 = .ok (.invokespecial 3, 3) := by decide +kernel
theorem dX2_init_10 : decode cX2_init 10 = .ok (.iconst 0, 1) := by decide +kernel
theorem dX2_init_11 : decode cX2_init 11 = .ok (.putfield 15, 3) := by decide +kernel
theorem dX2_init_14 : decode cX2_init 14 = .ok (.aload_n 0, 1) := by decide +kernel
theorem dX2_init_15 : decode cX2_init 15 = .ok (.lconst 0, 1) := by decide +kernel
theorem dX2_init_16 : decode cX2_init 16 = .ok (.putfield 19, 3) := by decide +kernel
theorem dX2_init_19 : decode cX2_init 19 = .ok (.aload_n 0, 1) := by decide +kernel
theorem dX2_init_20 : decode cX2_init 20 = .ok (.iconst 0, 1) := by decide +kernel
theorem dX2_init_21 : decode cX2_init 21 = .ok (.putfield 23, 3) := by decide +kernel
theorem dX2_init_24 : decode cX2_init 24 = .ok (.aload_n 0, 1) := by decide +kernel
theorem dX2_init_25 : decode cX2_init 25 = .ok (.iconst 0, 1) := by decide +kernel
theorem dX2_init_26 : decode cX2_init 26 = .ok (.putfield 26, 3) := by decide +kernel
theorem dX2_init_29 : decode cX2_init 29 = .ok (.aload_n 0, 1) := by decide +kernel
theorem dX2_init_30 : decode cX2_init 30 = .ok (.iconst 0, 1) := by decide +kernel
theorem dX2_init_31 : decode cX2_init 31 = .ok (.putfield 29, 3) := by decide +kernel
theorem dX2_init_34 : decode cX2_init 34 = .ok (.aload_n 0, 1) := by decide +kernel
theorem dX2_init_35 : decode cX2_init 35 = .ok (.iconst 0, 1) := by decide +kernel
theorem dX2_init_36 : decode cX2_init 36 = .ok (.putfield 32, 3) := by decide +kernel
theorem dX2_init_39 : decode cX2_init 39 = .ok (.aload_n 0, 1) := by decide +kernel
theorem dX2_init_4 : decode cX2_init 4 = .ok (.aload_n 0, 1) := by decide +kernel
theorem dX2_init_40 : decode cX2_init 40 = .ok (.iconst 0, 1) := by decide +kernel
theorem dX2_init_41 : decode cX2_init 41 = .ok (.putfield 35, 3) := by decide +kernel
theorem dX2_init_44 : decode cX2_init 44 = .ok (.return_, 1) := by decide +kernel
theorem dX2_init_5 : decode cX2_init 5 = .ok (.iconst 0, 1) := by decide +kernel
theorem dX2_init_6 : decode cX2_init 6 = .ok (.putfield 9, 3) := by decide +kernel
theorem dX2_init_9 : decode cX2_init 9 = .ok (.aload_n 0, 1) := by decide +kernel
theorem dX3_init_0 : decode cX3_init 0 = .ok (.aload_n 0, 1) := by decide +kernel
theorem dX3_init_1 : decode cX3_init 1 = .ok (.invokespecial 3, 3) := by decide +kernel
theorem dX3_init_10 : decode cX3_init 10 = .ok (.bipush 8, 2) := by decide +kernel
theorem dX3_init_12 : decode cX3_init 12 = .ok (.anewarray 15, 3) := by decide +kernel
theorem dX3_init_15 : decode cX3_init 15 = .ok (.putfield 17, 3) := by decide +kernel
theorem dX3_init_18 : decode cX3_init 18 = .ok (.iconst 0, 1) := by decide +kernel
theorem dX3_init_19 : decode cX3_init 19 = .ok (.istore_n 2, 1) := by decide +kernel
theorem dX3_init_20 : decode cX3_init 20 = .ok (.iload_n 2, 1) := by decide +kernel
theorem dX3_init_21 : decode cX3_init 21 = .ok (.bipush 8, 2) := by decide +kernel
theorem dX3_init_23 : decode cX3_init 23 = .ok (.if_icmp .ge 22, 3) := by decide +kernel
theorem dX3_init_26 : decode cX3_init 26 = .ok (.aload_n 0, 1) := by decide +kernel
theorem dX3_init_27 : decode cX3_init 27 = .ok (.getfield 17, 3) := by decide +kernel
theorem dX3_init_30 : decode cX3_init 30 = .ok (.iload_n 2, 1) := by decide +kernel
theorem dX3_init_31 : decode cX3_init 31 = .ok (.new 15, 3) := by decide +kernel
theorem dX3_init_34 : decode cX3_init 34 = .ok (.dup, 1) := by decide +kernel
theorem dX3_init_35 : decode cX3_init 35 = .ok (.invokespecial 21, 3) := by decide +kernel
theorem dX3_init_38 : decode cX3_init 38 = .ok (.aastore, 1) := by decide +kernel
theorem dX3_init_39 : decode cX3_init 39 = .ok (.iinc 2 1, 3) := by decide +kernel
theorem dX3_init_4 : decode cX3_init 4 = .ok (.aload_n 0, 1) := by decide +kernel
theorem dX3_init_42 : decode cX3_init 42 = .ok (.goto (-22), 3) := by decide +kernel
theorem dX3_init_45 : decode cX3_init 45 = .ok (.aload_n 0, 1) := by decide +kernel
theorem dX3_init_46 : decode cX3_init 46 = .ok (.iconst 0, 1) := by decide +kernel
theorem dX3_init_47 : decode cX3_init 47 = .ok (.putfield 22, 3) := by decide +kernel
theorem dX3_init_5 : decode cX3_init 5 = .ok (.aload_n 1, 1) := by decide +kernel
theorem dX3_init_50 : decode cX3_init 50 = .ok (.aload_n 0, 1) := by decide +kernel
theorem dX3_init_51 : decode cX3_init 51 = .ok (.iconst (-1), 1) := by decide +kernel
theorem dX3_init_52 : decode cX3_init 52 = .ok (.putfield 26, 3) := by decide +kernel
theorem dX3_init_55 : decode cX3_init 55 = .ok (.return_, 1) := by decide +kernel
theorem dX3_init_6 : decode cX3_init 6 = .ok (.putfield 9, 3) := by decide +kernel
theorem dX3_init_9 : decode cX3_init 9 = .ok (.aload_n 0, 1) := by decide +kernel
theorem dX4_init_0 : decode cX4_init 0 = .ok (.aload_n 0, 1) := by decide +kernel
theorem dX4_init_1 : decode cX4_init 1 = .ok (.invokespecial 3, 3) := by decide +kernel
theorem dX4_init_10 : decode cX4_init 10 = .ok (.bipush 8, 2) := by decide +kernel
theorem dX4_init_12 : decode cX4_init 12 = .ok (.anewarray 15, 3) := by decide +kernel
theorem dX4_init_15 : decode cX4_init 15 = .ok (.putfield 17, 3) := by decide +kernel
theorem dX4_init_18 : decode cX4_init 18 = .ok (.iconst 0, 1) := by decide +kernel
theorem dX4_init_19 : decode cX4_init 19 = .ok (.istore_n 2, 1) := by decide +kernel
theorem dX4_init_20 : decode cX4_init 20 = .ok (.iload_n 2, 1) := by decide +kernel
theorem dX4_init_21 : decode cX4_init 21 = .ok (.bipush 8, 2) := by decide +kernel
theorem dX4_init_23 : decode cX4_init 23 = .ok (.if_icmp .ge 22, 3) := by decide +kernel
theorem dX4_init_26 : decode cX4_init 26 = .ok (.aload_n 0, 1) := by decide +kernel
theorem dX4_init_27 : decode cX4_init 27 = .ok (.getfield 17, 3) := by decide +kernel
theorem dX4_init_30 : decode cX4_init 30 = .ok (.iload_n 2, 1) := by decide +kernel
theorem dX4_init_31 : decode cX4_init 31 = .ok (.new 15, 3) := by decide +kernel
theorem dX4_init_34 : decode cX4_init 34 = .ok (.dup, 1) := by decide +kernel
theorem dX4_init_35 : decode cX4_init 35 = .ok (.invokespecial 21, 3) := by decide +kernel
theorem dX4_init_38 : decode cX4_init 38 = .ok (.aastore, 1) := by decide +kernel
theorem dX4_init_39 : decode cX4_init 39 = .ok (.iinc 2 1, 3) := by decide +kernel
theorem dX4_init_4 : decode cX4_init 4 = .ok (.aload_n 0, 1) := by decide +kernel
theorem dX4_init_42 : decode cX4_init 42 = .ok (.goto (-22), 3) := by decide +kernel
theorem dX4_init_45 : decode cX4_init 45 = .ok (.aload_n 0, 1) := by decide +kernel
theorem dX4_init_46 : decode cX4_init 46 = .ok (.new 22, 3) := by decide +kernel
theorem dX4_init_49 : decode cX4_init 49 = .ok (.dup, 1) := by decide +kernel
theorem dX4_init_5 : decode cX4_init 5 = .ok (.aload_n 1, 1) := by decide +kernel
theorem dX4_init_50 : decode cX4_init 50 = .ok (.iconst 0, 1) := by decide +kernel
theorem dX4_init_51 : decode cX4_init 51 = .ok (.invokespecial 24, 3) := by decide +kernel
theorem dX4_init_54 : decode cX4_init 54 = .ok (.putfield 27, 3) := by decide +kernel
theorem dX4_init_57 : decode cX4_init 57 = .ok (.return_, 1) := by decide +kernel
theorem dX4_init_6 : decode cX4_init 6 = .ok (.putfield 9, 3) := by decide +kernel
theorem dX4_init_9 : decode cX4_init 9 = .ok (.aload_n 0, 1) := by decide +kernel
theorem dX6_faultFound_0 : decode cX6_faultFound 0 = .ok (.aload_n 0, 1) := by decide +kernel
theorem dX6_faultFound_1 : decode cX6_faultFound 1 = .ok (.getfield 30, 3) := by decide +kernel
theorem dX6_faultFound_4 : decode cX6_faultFound 4 = .ok (.ireturn, 1) := by decide +kernel
theorem dX6_init_0 : decode cX6_init 0 = .ok (.aload_n 0, 1) := by decide +kernel
theorem dX6_init_1 : decode cX6_init 1 = .ok (.invokespecial 3, 3) := by decide +kernel
theorem dX6_init_10 : decode cX6_init 10 = .ok (.aload_n 2, 1) := by decide +kernel
theorem dX6_init_11 : decode cX6_init 11 = .ok (.putfield 15, 3) := by decide +kernel
theorem dX6_init_14 : decode cX6_init 14 = .ok (.aload_n 0, 1) := by decide +kernel
theorem dX6_init_15 : decode cX6_init 15 = .ok (.new 19, 3) := by decide +kernel
theorem dX6_init_18 : decode cX6_init 18 = .ok (.dup, 1) := by decide +kernel
theorem dX6_init_19 : decode cX6_init 19 = .ok (.invokespecial 21, 3) := by decide +kernel
theorem dX6_init_22 : decode cX6_init 22 = .ok (.putfield 22, 3) := by decide +kernel
theorem dX6_init_25 : decode cX6_init 25 = .ok (.aload_n 0, 1) := by decide +kernel
theorem dX6_init_26 : decode cX6_init 26 = .ok (.iconst 0, 1) := by decide +kernel
theorem dX6_init_27 : decode cX6_init 27 = .ok (.putfield 26, 3) := by decide +kernel
theorem dX6_init_30 : decode cX6_init 30 = .ok (.aload_n 0, 1) := by decide +kernel
theorem dX6_init_31 : decode cX6_init 31 = .ok (.iconst 0, 1) := by decide +kernel
theorem dX6_init_32 : decode cX6_init 32 = .ok (.putfield 30, 3) := by decide +kernel
theorem dX6_init_35 : decode cX6_init 35 = .ok (.aload_n 0, 1) := by decide +kernel
theorem dX6_init_36 : decode cX6_init 36 = .ok (.iconst (-1), 1) := by decide +kernel
theorem dX6_init_37 : decode cX6_init 37 = .ok (.putfield 33, 3) := by decide +kernel
theorem dX6_init_4 : decode cX6_init 4 = .ok (.aload_n 0, 1) := by decide +kernel
theorem dX6_init_40 : decode cX6_init 40 = .ok (.return_, 1) := by decide +kernel
theorem dX6_init_5 : decode cX6_init 5 = .ok (.aload_n 1, 1) := by decide +kernel
theorem dX6_init_6 : decode cX6_init 6 = .ok (.putfield 9, 3) := by decide +kernel
theorem dX6_init_9 : decode cX6_init 9 = .ok (.aload_n 0, 1) := by decide +kernel
theorem dX6_placeFound_0 : decode cX6_placeFound 0 = .ok (.aload_n 0, 1) := by decide +kernel
theorem dX6_placeFound_1 : decode cX6_placeFound 1 = .ok (.getfield 33, 3) := by decide +kernel
theorem dX6_placeFound_4 : decode cX6_placeFound 4 = .ok (.ireturn, 1) := by decide +kernel
theorem dX6_skipBlanks_0 : decode cX6_skipBlanks 0 = .ok (.aload_n 0, 1) := by decide +kernel
theorem dX6_skipBlanks_1 : decode cX6_skipBlanks 1 = .ok (.getfield 26, 3) := by decide +kernel
theorem dX6_skipBlanks_12 : decode cX6_skipBlanks 12 = .ok (.invokevirtual 42, 3) := by decide +kernel
theorem dX6_skipBlanks_15 : decode cX6_skipBlanks 15 = .ok (.if_icmp .ge 33, 3) := by decide +kernel
theorem dX6_skipBlanks_4 : decode cX6_skipBlanks 4 = .ok (.istore_n 1, 1) := by decide +kernel
theorem dX6_skipBlanks_48 : decode cX6_skipBlanks 48 = .ok (.return_, 1) := by decide +kernel
theorem dX6_skipBlanks_5 : decode cX6_skipBlanks 5 = .ok (.iload_n 1, 1) := by decide +kernel
theorem dX6_skipBlanks_6 : decode cX6_skipBlanks 6 = .ok (.istore_n 2, 1) := by decide +kernel
theorem dX6_skipBlanks_7 : decode cX6_skipBlanks 7 = .ok (.iload_n 2, 1) := by decide +kernel
theorem dX6_skipBlanks_8 : decode cX6_skipBlanks 8 = .ok (.aload_n 0, 1) := by decide +kernel
theorem dX6_skipBlanks_9 : decode cX6_skipBlanks 9 = .ok (.getfield 9, 3) := by decide +kernel
theorem dX6_tell_0 : decode cX6_tell 0 = .ok (.aload_n 0, 1) := by decide +kernel
theorem dX6_tell_1 : decode cX6_tell 1 = .ok (.iconst 0, 1) := by decide +kernel
theorem dX6_tell_10 : decode cX6_tell 10 = .ok (.aload_n 0, 1) := by decide +kernel
theorem dX6_tell_11 : decode cX6_tell 11 = .ok (.iconst (-1), 1) := by decide +kernel
theorem dX6_tell_12 : decode cX6_tell 12 = .ok (.putfield 33, 3) := by decide +kernel
theorem dX6_tell_15 : decode cX6_tell 15 = .ok (.new 36, 3) := by decide +kernel
theorem dX6_tell_18 : decode cX6_tell 18 = .ok (.dup, 1) := by decide +kernel
theorem dX6_tell_19 : decode cX6_tell 19 = .ok (.invokespecial 38, 3) := by decide +kernel
theorem dX6_tell_2 : decode cX6_tell 2 = .ok (.putfield 26, 3) := by decide +kernel
theorem dX6_tell_22 : decode cX6_tell 22 = .ok (.astore_n 2, 1) := by decide +kernel
theorem dX6_tell_23 : decode cX6_tell 23 = .ok (.iconst 0, 1) := by decide +kernel
theorem dX6_tell_24 : decode cX6_tell 24 = .ok (.istore_n 3, 1) := by decide +kernel
theorem dX6_tell_25 : decode cX6_tell 25 = .ok (.iload_n 3, 1) := by decide +kernel
theorem dX6_tell_26 : decode cX6_tell 26 = .ok (.bipush 10, 2) := by decide +kernel
theorem dX6_tell_28 : decode cX6_tell 28 = .ok (.if_icmp .gt 62, 3) := by decide +kernel
theorem dX6_tell_31 : decode cX6_tell 31 = .ok (.aload_n 0, 1) := by decide +kernel
theorem dX6_tell_32 : decode cX6_tell 32 = .ok (.getfield 30, 3) := by decide +kernel
theorem dX6_tell_35 : decode cX6_tell 35 = .ok (.ifCond .ne 55, 3) := by decide +kernel
theorem dX6_tell_38 : decode cX6_tell 38 = .ok (.aload_n 0, 1) := by decide +kernel
theorem dX6_tell_39 : decode cX6_tell 39 = .ok (.invokevirtual 39, 3) := by decide +kernel
theorem dX6_tell_42 : decode cX6_tell 42 = .ok (.aload_n 0, 1) := by decide +kernel
theorem dX6_tell_43 : decode cX6_tell 43 = .ok (.getfield 26, 3) := by decide +kernel
theorem dX6_tell_46 : decode cX6_tell 46 = .ok (.aload_n 0, 1) := by decide +kernel
theorem dX6_tell_47 : decode cX6_tell 47 = .ok (.getfield 9, 3) := by decide +kernel
theorem dX6_tell_5 : decode cX6_tell 5 = .ok (.aload_n 0, 1) := by decide +kernel
theorem dX6_tell_50 : decode cX6_tell 50 = .ok (.invokevirtual 42, 3) := by decide +kernel
theorem dX6_tell_53 : decode cX6_tell 53 = .ok (.if_icmp .lt 5, 3) := by decide +kernel
theorem dX6_tell_56 : decode cX6_tell 56 = .ok (.aload_n 2, 1) := by decide +kernel
theorem dX6_tell_57 : decode cX6_tell 57 = .ok (.areturn, 1) := by decide +kernel
theorem dX6_tell_6 : decode cX6_tell 6 = .ok (.iconst 0, 1) := by decide +kernel
theorem dX6_tell_7 : decode cX6_tell 7 = .ok (.putfield 30, 3) := by decide +kernel
theorem dX7_init_0 : decode cX7_init 0 = .ok (.aload_n 0, 1) := by decide +kernel
theorem dX7_init_1 : decode cX7_init 1 = .ok (.invokespecial 3, 3) := by decide +kernel
theorem dX7_init_10 : decode cX7_init 10 = .ok (.sipush 1024, 3) := by decide +kernel
theorem dX7_init_13 : decode cX7_init 13 = .ok (.newarray .int, 2) := by decide +kernel
theorem dX7_init_15 : decode cX7_init 15 = .ok (.putfield 15, 3) := by decide +kernel
theorem dX7_init_18 : decode cX7_init 18 = .ok (.return_, 1) := by decide +kernel
theorem dX7_init_4 : decode cX7_init 4 = .ok (.aload_n 0, 1) := by decide +kernel
theorem dX7_init_5 : decode cX7_init 5 = .ok (.aload_n 1, 1) := by decide +kernel
theorem dX7_init_6 : decode cX7_init 6 = .ok (.putfield 9, 3) := by decide +kernel
theorem dX7_init_9 : decode cX7_init 9 = .ok (.aload_n 0, 1) := by decide +kernel
def wp_X1_init : List Cond := .code yX1_init cX1_init 1 none :: ([.methodLink RX1 3 objectInit, .instanceMethod objectInit, .code objectInit ⟨#[0xb1]⟩ 1 none, .classLink RX1 9 RX0, .fieldLink RX1 11 "RecordBench$Make" "fields" "[LRecordBench$Field;", .fieldLink RX1 17 "RecordBench$Make" "count" "I"] ++ wsX10)
set_option maxHeartbeats 4000000 in
set_option maxRecDepth 100000 in
theorem c_X1_init (l : Launch) (dC : Nat → ClassId) (dI : Nat → Nat → Nat) (h0 : Nat) (sz : Nat) : Met l yX1_init wp_X1_init ({ frames := 1, cells := 1, slots := 31, locals := 16 }) (va_Pc [.ref h0] (Pr (dC, dI) [] [(h0, .inr (3, [.null, .int 0]))] sz)) (va_Qv (fun (q : Nat) => True) (Bq (dC, dI) (fun (q : Nat) => [(h0, .inr (3, [.ref q, .int 0]))]) (fun (q : Nat) => []) (va_A [(h0, .inr (3, [.null, .int 0]))] sz)) (va_A [(h0, .inr (3, [.null, .int 0]))] sz)) 1 31 (va_A [(h0, .inr (3, [.null, .int 0]))] sz) := by
  refine Met.ofW (cc := cX1_init) (maxL := 1) (ret := none) (by decide) rfl ?_
  intro p e s m args below meth c s₁ B hml hv
  obtain ⟨rfl, hsz, hP, hK, hD0, hN, hZ⟩ := hv
  have hx := B.exec
  have hb := B.bytes
  have hr := B.returns
  have hts := atoms_spec (ws := wp_X1_init) B.pre
  have hown : s.vm.findClass RX1 = some m.cls := findClass_of_methodNamed B.named
  have hlocks := B.notSynchronized
  have hin : meth.name = "<init>" := (name_of_methodNamed B.named B.method).1
  have iRX1 : ∀ w ∈ u_ws RX1 TX1 2, w ∈ wp_X1_init := by decide +kernel
  subst hsz
  have hD := hD0.self (sz := s.heap.size)
  generalize hAe : va_A [(h0, .inr (3, [.null, .int 0]))] s.heap.size = A at hD hZ ⊢
  have hA : ∀ q : Nat, s.heap.size ≤ q → A q := fun q h => by rw [← hAe]; exact Or.inr h
  have hS : va_S A s.heap s.heap [] := va_S.rf
  have hP : va_P (dC, dI) vwCl [(h0, .inr (3, [.null, .int 0]))] s.heap := hP
  have hl := lv_entry ([.ref h0]) (n := 1) (Nat.le_of_ble_eq_true rfl)
  rw [lg_entry_eq]
  generalize (lg_sl ([.ref h0]) ++ List.replicate (1 - (lg_sl ([.ref h0])).length) Slot.unset).toArray = ls at hl ⊢
  have hl : lv_has ls 1 [(0, .ref h0)] := hl
  refine lv_aload_n hx hb dX1_init_0 rfl (lv_at hl 0 rfl) ?_
  refine W.objInit hx hb hown (hts (.methodLink RX1 3 objectInit) (by decide +kernel)) (hts (.instanceMethod objectInit) (by decide +kernel)) (hts (.code objectInit ⟨#[0xb1]⟩ 1 none) (by decide +kernel)) rfl (by rw [hml]; exact hl.1) rfl dX1_init_1 (Nat.le_of_ble_eq_true rfl) (Nat.le_of_ble_eq_true rfl) ?_
  refine W.eq (g2 := F0 m 4 ls []) rfl ?_
  refine lv_aload_n hx hb dX1_init_4 rfl (lv_at hl 0 rfl) ?_
  refine lv_bipush (v := 31) hx hb dX1_init_5 (by decide) ?_
  refine va_newq (C := RX0) hx hb hown (hts (.classLink RX1 9 RX0) (by decide +kernel)) hN.2.2.2.2.2.2 hK hP hD hS hA (n := 31) (N' := 31) (by decide) (by decide) (by decide) (Nat.le_of_ble_eq_true rfl) (Nat.le_of_ble_eq_true rfl) dX1_init_7 (fun q_1 cA_2 H hK hP hD hS => ?_)
  have hP : va_P (dC, dI) vwCl [(h0, .inr (3, [.null, .int 0])), (q_1, .inl (cA_2, 31, .inr (.inr (.inr (.inr (fun _ => none))))))] H := hP
  have hD : va_D A [(h0, .inr (3, [.null, .int 0])), (q_1, .inl (cA_2, 31, .inr (.inr (.inr (.inr (fun _ => none))))))] := hD
  have hK : va_K (dC, dI) vwCl [(cA_2, .object RX0)] s := hK
  refine W.widen (k := 1) (n := 31) (by omega) (by omega) ?_
  refine va_putF (D := (dC, dI)) (ci := 3) (v := .ref q_1) (ty := (.array (.object "RecordBench$Field"))) (C := RX1) (T := TX1) (N := 2) hx hb hts iRX1 tyX1 tyX1_ok nmX1 hown hK hP hD hS 0 rfl rfl 0 (by decide) (hts (.fieldLink RX1 11 "RecordBench$Make" "fields" "[LRecordBench$Field;") (by decide +kernel)) (fun _ h9 => h9) rfl hin rfl (by decide +kernel) rfl rfl (Nat.le_of_ble_eq_true rfl) dX1_init_10 (fun H locs hP hD hS => ?_)
  have hP : va_P (dC, dI) vwCl [(h0, .inr (3, [.ref q_1, .int 0])), (q_1, .inl (cA_2, 31, .inr (.inr (.inr (.inr (fun _ => none))))))] H := hP
  have hD : va_D A [(h0, .inr (3, [.ref q_1, .int 0])), (q_1, .inl (cA_2, 31, .inr (.inr (.inr (.inr (fun _ => none))))))] := hD
  refine lv_aload_n hx hb dX1_init_13 rfl (lv_at hl 0 rfl) ?_
  refine lv_iconst (v := 0) hx hb dX1_init_14 (by decide) ?_
  refine va_put (D := (dC, dI)) (ci := 3) (v := .int 0) (ty := .int) (C := RX1) (T := TX1) (N := 2) hx hb hts iRX1 tyX1 tyX1_ok nmX1 hown hK hP hD hS 0 rfl rfl 1 (by decide) (hts (.fieldLink RX1 17 "RecordBench$Make" "count" "I") (by decide +kernel)) (fun _ h9 => h9) rfl (by decide +kernel) rfl rfl (Nat.le_of_ble_eq_true rfl) dX1_init_15 (fun H locs hP hD hS => ?_)
  have hP : va_P (dC, dI) vwCl [(h0, .inr (3, [.ref q_1, .int 0])), (q_1, .inl (cA_2, 31, .inr (.inr (.inr (.inr (fun _ => none))))))] H := hP
  have hD : va_D A [(h0, .inr (3, [.ref q_1, .int 0])), (q_1, .inl (cA_2, 31, .inr (.inr (.inr (.inr (fun _ => none))))))] := hD
  have hP9 := hP.sub (ws' := [(h0, .inr (3, [.ref q_1, .int 0]))]) [0] rfl
  have hD9 := hD.sub (ws' := [(h0, .inr (3, [.ref q_1, .int 0]))]) [0] (by decide) rfl
  have hK9 := hK.sub (tys' := []) [] rfl
  exact W.vret hx hb hr (fun t ht hW => ⟨⟨q_1, rfl, trivial, by rw [ht]; exact hP9, va_K.moved hW.alike hK9, hD9⟩, hS.F ht⟩) hS.2.2 dX1_init_18
def wp_X1_count : List Cond := .code yX1_count cX1_count 1 (some .int) :: ([.fieldLink RX1 17 "RecordBench$Make" "count" "I"] ++ wsX10)
set_option maxHeartbeats 4000000 in
set_option maxRecDepth 100000 in
theorem c_X1_count (l : Launch) (dC : Nat → ClassId) (dI : Nat → Nat → Nat) (h0 : Nat) (q0 : Nat) (n0 : Int32) (sz : Nat) : Met l yX1_count wp_X1_count ({ frames := 0, cells := 0, slots := 0, locals := 0 }) (va_Pc [.ref h0] (Pr (dC, dI) [] [(h0, .inr (3, [.ref q0, .int n0]))] sz)) (va_Qi (fun r : Int32 => (fun _ : Unit => r = n0)) (Bq (dC, dI) (fun _ : Unit => [(h0, .inr (3, [.ref q0, .int n0]))]) (fun _ : Unit => []) (va_A [(h0, .inr (3, [.ref q0, .int n0]))] sz)) (va_A [(h0, .inr (3, [.ref q0, .int n0]))] sz)) 0 0 (va_A [(h0, .inr (3, [.ref q0, .int n0]))] sz) := by
  refine Met.ofW (cc := cX1_count) (maxL := 1) (ret := (some .int)) (by decide) rfl ?_
  intro p e s m args below meth c s₁ B hml hv
  obtain ⟨rfl, hsz, hP, hK, hD0, hN, hZ⟩ := hv
  have hx := B.exec
  have hb := B.bytes
  have hr := B.returns
  have hts := atoms_spec (ws := wp_X1_count) B.pre
  have hown : s.vm.findClass RX1 = some m.cls := findClass_of_methodNamed B.named
  have hlocks := B.notSynchronized
  have iRX1 : ∀ w ∈ u_ws RX1 TX1 2, w ∈ wp_X1_count := by decide +kernel
  subst hsz
  have hD := hD0.self (sz := s.heap.size)
  generalize hAe : va_A [(h0, .inr (3, [.ref q0, .int n0]))] s.heap.size = A at hD hZ ⊢
  have hA : ∀ q : Nat, s.heap.size ≤ q → A q := fun q h => by rw [← hAe]; exact Or.inr h
  have hS : va_S A s.heap s.heap [] := va_S.rf
  have hP : va_P (dC, dI) vwCl [(h0, .inr (3, [.ref q0, .int n0]))] s.heap := hP
  have hl := lv_entry ([.ref h0]) (n := 1) (Nat.le_of_ble_eq_true rfl)
  rw [lg_entry_eq]
  generalize (lg_sl ([.ref h0]) ++ List.replicate (1 - (lg_sl ([.ref h0])).length) Slot.unset).toArray = ls at hl ⊢
  have hl : lv_has ls 1 [(0, .ref h0)] := hl
  refine lv_aload_n hx hb dX1_count_0 rfl (lv_at hl 0 rfl) ?_
  refine va_get (D := (dC, dI)) (ci := 3) (v := .int n0) (C := RX1) (T := TX1) (N := 2) hx hb hts iRX1 hown hK hP 0 rfl rfl 1 (by decide) (hts (.fieldLink RX1 17 "RecordBench$Make" "count" "I") (by decide +kernel)) (fun _ h9 => h9) rfl dX1_count_1 ?_
  have hP9 := hP.sub (ws' := [(h0, .inr (3, [.ref q0, .int n0]))]) [0] rfl
  have hD9 := hD.sub (ws' := [(h0, .inr (3, [.ref q0, .int n0]))]) [0] (by decide) rfl
  have hK9 := hK.sub (tys' := []) [] rfl
  exact W.iret (v := n0) hx hb hr (fun t ht hW => ⟨⟨n0, (), rfl, rfl, by rw [ht]; exact hP9, va_K.moved hW.alike hK9, hD9⟩, hS.F ht⟩) hS.2.2 dX1_count_4
def wp_X2_init : List Cond := .code yX2_init cX2_init 1 none :: ([.methodLink RX2 3 objectInit, .instanceMethod objectInit, .code objectInit ⟨#[0xb1]⟩ 1 none, .fieldLink RX2 9 "RecordBench$Piece" "number" "I", .fieldLink RX2 15 "RecordBench$Piece" "withLength" "Z", .fieldLink RX2 19 "RecordBench$Piece" "raw" "J", .fieldLink RX2 23 "RecordBench$Piece" "body" "I", .fieldLink RX2 26 "RecordBench$Piece" "end" "I", .fieldLink RX2 29 "RecordBench$Piece" "fault" "I", .fieldLink RX2 32 "RecordBench$Piece" "pos" "I", .fieldLink RX2 35 "RecordBench$Piece" "broken" "Z"] ++ wsX20)
set_option maxHeartbeats 4000000 in
set_option maxRecDepth 100000 in
theorem c_X2_init (l : Launch) (dC : Nat → ClassId) (dI : Nat → Nat → Nat) (h0 : Nat) (sz : Nat) : Met l yX2_init wp_X2_init ({ frames := 1, cells := 0, slots := 0, locals := 16 }) (va_Pc [.ref h0] (Pr (dC, dI) [] [(h0, .inr (4, [.int 0, .int 0, .long 0, .int 0, .int 0, .int 0, .int 0, .int 0]))] sz)) (va_Qv (fun _ : Unit => True) (Bq (dC, dI) (fun _ : Unit => [(h0, .inr (4, [.int 0, .int 0, .long 0, .int 0, .int 0, .int 0, .int 0, .int 0]))]) (fun _ : Unit => []) (va_A [(h0, .inr (4, [.int 0, .int 0, .long 0, .int 0, .int 0, .int 0, .int 0, .int 0]))] sz)) (va_A [(h0, .inr (4, [.int 0, .int 0, .long 0, .int 0, .int 0, .int 0, .int 0, .int 0]))] sz)) 0 0 (va_A [(h0, .inr (4, [.int 0, .int 0, .long 0, .int 0, .int 0, .int 0, .int 0, .int 0]))] sz) := by
  refine Met.ofW (cc := cX2_init) (maxL := 1) (ret := none) (by decide) rfl ?_
  intro p e s m args below meth c s₁ B hml hv
  obtain ⟨rfl, hsz, hP, hK, hD0, hN, hZ⟩ := hv
  have hx := B.exec
  have hb := B.bytes
  have hr := B.returns
  have hts := atoms_spec (ws := wp_X2_init) B.pre
  have hown : s.vm.findClass RX2 = some m.cls := findClass_of_methodNamed B.named
  have hlocks := B.notSynchronized
  have iRX2 : ∀ w ∈ u_ws RX2 TX2 8, w ∈ wp_X2_init := by decide +kernel
  subst hsz
  have hD := hD0.self (sz := s.heap.size)
  generalize hAe : va_A [(h0, .inr (4, [.int 0, .int 0, .long 0, .int 0, .int 0, .int 0, .int 0, .int 0]))] s.heap.size = A at hD hZ ⊢
  have hA : ∀ q : Nat, s.heap.size ≤ q → A q := fun q h => by rw [← hAe]; exact Or.inr h
  have hS : va_S A s.heap s.heap [] := va_S.rf
  have hP : va_P (dC, dI) vwCl [(h0, .inr (4, [.int 0, .int 0, .long 0, .int 0, .int 0, .int 0, .int 0, .int 0]))] s.heap := hP
  have hl := lv_entry ([.ref h0]) (n := 1) (Nat.le_of_ble_eq_true rfl)
  rw [lg_entry_eq]
  generalize (lg_sl ([.ref h0]) ++ List.replicate (1 - (lg_sl ([.ref h0])).length) Slot.unset).toArray = ls at hl ⊢
  have hl : lv_has ls 1 [(0, .ref h0)] := hl
  refine lv_aload_n hx hb dX2_init_0 rfl (lv_at hl 0 rfl) ?_
  refine W.objInit hx hb hown (hts (.methodLink RX2 3 objectInit) (by decide +kernel)) (hts (.instanceMethod objectInit) (by decide +kernel)) (hts (.code objectInit ⟨#[0xb1]⟩ 1 none) (by decide +kernel)) rfl (by rw [hml]; exact hl.1) rfl dX2_init_1 (Nat.le_of_ble_eq_true rfl) (Nat.le_of_ble_eq_true rfl) ?_
  refine W.eq (g2 := F0 m 4 ls []) rfl ?_
  refine lv_aload_n hx hb dX2_init_4 rfl (lv_at hl 0 rfl) ?_
  refine lv_iconst (v := 0) hx hb dX2_init_5 (by decide) ?_
  refine va_put (D := (dC, dI)) (ci := 4) (v := .int 0) (ty := .int) (C := RX2) (T := TX2) (N := 8) hx hb hts iRX2 tyX2 tyX2_ok nmX2 hown hK hP hD hS 0 rfl rfl 0 (by decide) (hts (.fieldLink RX2 9 "RecordBench$Piece" "number" "I") (by decide +kernel)) (fun _ h9 => h9) rfl (by decide +kernel) rfl rfl (Nat.le_of_ble_eq_true rfl) dX2_init_6 (fun H locs hP hD hS => ?_)
  have hP : va_P (dC, dI) vwCl [(h0, .inr (4, [.int 0, .int 0, .long 0, .int 0, .int 0, .int 0, .int 0, .int 0]))] H := hP
  have hD : va_D A [(h0, .inr (4, [.int 0, .int 0, .long 0, .int 0, .int 0, .int 0, .int 0, .int 0]))] := hD
  refine lv_aload_n hx hb dX2_init_9 rfl (lv_at hl 0 rfl) ?_
  refine lv_iconst (v := 0) hx hb dX2_init_10 (by decide) ?_
  refine va_put (D := (dC, dI)) (ci := 4) (v := .int 0) (ty := .boolean) (C := RX2) (T := TX2) (N := 8) hx hb hts iRX2 tyX2 tyX2_ok nmX2 hown hK hP hD hS 0 rfl rfl 1 (by decide) (hts (.fieldLink RX2 15 "RecordBench$Piece" "withLength" "Z") (by decide +kernel)) (fun _ h9 => h9) rfl (by decide +kernel) rfl rfl (Nat.le_of_ble_eq_true rfl) dX2_init_11 (fun H locs hP hD hS => ?_)
  have hP : va_P (dC, dI) vwCl [(h0, .inr (4, [.int 0, .int 0, .long 0, .int 0, .int 0, .int 0, .int 0, .int 0]))] H := hP
  have hD : va_D A [(h0, .inr (4, [.int 0, .int 0, .long 0, .int 0, .int 0, .int 0, .int 0, .int 0]))] := hD
  refine lv_aload_n hx hb dX2_init_14 rfl (lv_at hl 0 rfl) ?_
  refine lv_lconst (v := 0) hx hb dX2_init_15 (by decide) ?_
  refine va_put (D := (dC, dI)) (ci := 4) (v := .long 0) (ty := .long) (C := RX2) (T := TX2) (N := 8) hx hb hts iRX2 tyX2 tyX2_ok nmX2 hown hK hP hD hS 0 rfl rfl 2 (by decide) (hts (.fieldLink RX2 19 "RecordBench$Piece" "raw" "J") (by decide +kernel)) (fun _ h9 => h9) rfl (by decide +kernel) rfl rfl (Nat.le_of_ble_eq_true rfl) dX2_init_16 (fun H locs hP hD hS => ?_)
  have hP : va_P (dC, dI) vwCl [(h0, .inr (4, [.int 0, .int 0, .long 0, .int 0, .int 0, .int 0, .int 0, .int 0]))] H := hP
  have hD : va_D A [(h0, .inr (4, [.int 0, .int 0, .long 0, .int 0, .int 0, .int 0, .int 0, .int 0]))] := hD
  refine lv_aload_n hx hb dX2_init_19 rfl (lv_at hl 0 rfl) ?_
  refine lv_iconst (v := 0) hx hb dX2_init_20 (by decide) ?_
  refine va_put (D := (dC, dI)) (ci := 4) (v := .int 0) (ty := .int) (C := RX2) (T := TX2) (N := 8) hx hb hts iRX2 tyX2 tyX2_ok nmX2 hown hK hP hD hS 0 rfl rfl 3 (by decide) (hts (.fieldLink RX2 23 "RecordBench$Piece" "body" "I") (by decide +kernel)) (fun _ h9 => h9) rfl (by decide +kernel) rfl rfl (Nat.le_of_ble_eq_true rfl) dX2_init_21 (fun H locs hP hD hS => ?_)
  have hP : va_P (dC, dI) vwCl [(h0, .inr (4, [.int 0, .int 0, .long 0, .int 0, .int 0, .int 0, .int 0, .int 0]))] H := hP
  have hD : va_D A [(h0, .inr (4, [.int 0, .int 0, .long 0, .int 0, .int 0, .int 0, .int 0, .int 0]))] := hD
  refine lv_aload_n hx hb dX2_init_24 rfl (lv_at hl 0 rfl) ?_
  refine lv_iconst (v := 0) hx hb dX2_init_25 (by decide) ?_
  refine va_put (D := (dC, dI)) (ci := 4) (v := .int 0) (ty := .int) (C := RX2) (T := TX2) (N := 8) hx hb hts iRX2 tyX2 tyX2_ok nmX2 hown hK hP hD hS 0 rfl rfl 4 (by decide) (hts (.fieldLink RX2 26 "RecordBench$Piece" "end" "I") (by decide +kernel)) (fun _ h9 => h9) rfl (by decide +kernel) rfl rfl (Nat.le_of_ble_eq_true rfl) dX2_init_26 (fun H locs hP hD hS => ?_)
  have hP : va_P (dC, dI) vwCl [(h0, .inr (4, [.int 0, .int 0, .long 0, .int 0, .int 0, .int 0, .int 0, .int 0]))] H := hP
  have hD : va_D A [(h0, .inr (4, [.int 0, .int 0, .long 0, .int 0, .int 0, .int 0, .int 0, .int 0]))] := hD
  refine lv_aload_n hx hb dX2_init_29 rfl (lv_at hl 0 rfl) ?_
  refine lv_iconst (v := 0) hx hb dX2_init_30 (by decide) ?_
  refine va_put (D := (dC, dI)) (ci := 4) (v := .int 0) (ty := .int) (C := RX2) (T := TX2) (N := 8) hx hb hts iRX2 tyX2 tyX2_ok nmX2 hown hK hP hD hS 0 rfl rfl 5 (by decide) (hts (.fieldLink RX2 29 "RecordBench$Piece" "fault" "I") (by decide +kernel)) (fun _ h9 => h9) rfl (by decide +kernel) rfl rfl (Nat.le_of_ble_eq_true rfl) dX2_init_31 (fun H locs hP hD hS => ?_)
  have hP : va_P (dC, dI) vwCl [(h0, .inr (4, [.int 0, .int 0, .long 0, .int 0, .int 0, .int 0, .int 0, .int 0]))] H := hP
  have hD : va_D A [(h0, .inr (4, [.int 0, .int 0, .long 0, .int 0, .int 0, .int 0, .int 0, .int 0]))] := hD
  refine lv_aload_n hx hb dX2_init_34 rfl (lv_at hl 0 rfl) ?_
  refine lv_iconst (v := 0) hx hb dX2_init_35 (by decide) ?_
  refine va_put (D := (dC, dI)) (ci := 4) (v := .int 0) (ty := .int) (C := RX2) (T := TX2) (N := 8) hx hb hts iRX2 tyX2 tyX2_ok nmX2 hown hK hP hD hS 0 rfl rfl 6 (by decide) (hts (.fieldLink RX2 32 "RecordBench$Piece" "pos" "I") (by decide +kernel)) (fun _ h9 => h9) rfl (by decide +kernel) rfl rfl (Nat.le_of_ble_eq_true rfl) dX2_init_36 (fun H locs hP hD hS => ?_)
  have hP : va_P (dC, dI) vwCl [(h0, .inr (4, [.int 0, .int 0, .long 0, .int 0, .int 0, .int 0, .int 0, .int 0]))] H := hP
  have hD : va_D A [(h0, .inr (4, [.int 0, .int 0, .long 0, .int 0, .int 0, .int 0, .int 0, .int 0]))] := hD
  refine lv_aload_n hx hb dX2_init_39 rfl (lv_at hl 0 rfl) ?_
  refine lv_iconst (v := 0) hx hb dX2_init_40 (by decide) ?_
  refine va_put (D := (dC, dI)) (ci := 4) (v := .int 0) (ty := .boolean) (C := RX2) (T := TX2) (N := 8) hx hb hts iRX2 tyX2 tyX2_ok nmX2 hown hK hP hD hS 0 rfl rfl 7 (by decide) (hts (.fieldLink RX2 35 "RecordBench$Piece" "broken" "Z") (by decide +kernel)) (fun _ h9 => h9) rfl (by decide +kernel) rfl rfl (Nat.le_of_ble_eq_true rfl) dX2_init_41 (fun H locs hP hD hS => ?_)
  have hP : va_P (dC, dI) vwCl [(h0, .inr (4, [.int 0, .int 0, .long 0, .int 0, .int 0, .int 0, .int 0, .int 0]))] H := hP
  have hD : va_D A [(h0, .inr (4, [.int 0, .int 0, .long 0, .int 0, .int 0, .int 0, .int 0, .int 0]))] := hD
  have hP9 := hP.sub (ws' := [(h0, .inr (4, [.int 0, .int 0, .long 0, .int 0, .int 0, .int 0, .int 0, .int 0]))]) [0] rfl
  have hD9 := hD.sub (ws' := [(h0, .inr (4, [.int 0, .int 0, .long 0, .int 0, .int 0, .int 0, .int 0, .int 0]))]) [0] (by decide) rfl
  have hK9 := hK.sub (tys' := []) [] rfl
  exact W.vret hx hb hr (fun t ht hW => ⟨⟨(), rfl, trivial, by rw [ht]; exact hP9, va_K.moved hW.alike hK9, hD9⟩, hS.F ht⟩) hS.2.2 dX2_init_44
def wp_X3_init : List Cond := .code yX3_init cX3_init 3 none :: ([.methodLink RX3 3 objectInit, .instanceMethod objectInit, .code objectInit ⟨#[0xb1]⟩ 1 none, .fieldLink RX3 9 "RecordBench$RecordReader" "makes" "[LRecordBench$Make;", .classLink RX3 15 RX2, .fieldLink RX3 17 "RecordBench$RecordReader" "pieces" "[LRecordBench$Piece;", .instantiable RX2 8, .initialized RX2, .instanceMethod yX2_init, .fieldLink RX3 22 "RecordBench$RecordReader" "fault" "I", .fieldLink RX3 26 "RecordBench$RecordReader" "place" "I", .code yX2_init cX2_init 1 none, .methodLink RX2 3 objectInit, .fieldLink RX2 9 "RecordBench$Piece" "number" "I", .fieldLink RX2 15 "RecordBench$Piece" "withLength" "Z", .fieldLink RX2 19 "RecordBench$Piece" "raw" "J", .fieldLink RX2 23 "RecordBench$Piece" "body" "I", .fieldLink RX2 26 "RecordBench$Piece" "end" "I", .fieldLink RX2 29 "RecordBench$Piece" "fault" "I", .fieldLink RX2 32 "RecordBench$Piece" "pos" "I", .fieldLink RX2 35 "RecordBench$Piece" "broken" "Z"] ++ wsX30 ++ wsX20)
set_option maxRecDepth 20000 in
theorem gp_X3_init_X2_init_21 : GoodIn wp_X3_init (wp_X2_init) := goodIn_p _ [12, 3] rfl (by decide +kernel)
set_option maxHeartbeats 4000000 in
set_option maxRecDepth 100000 in
theorem c_X3_init (l : Launch) (dC : Nat → ClassId) (dI : Nat → Nat → Nat) (h0 : Nat) (m0 : Nat) (sz : Nat) : Met l yX3_init wp_X3_init ({ frames := 2, cells := 9, slots := 72, locals := 40 }) (va_Pc [.ref h0, .ref m0] (Pr (dC, dI) [] [(h0, .inr (5, [.null, .null, .int 0, .int 0]))] sz)) (va_Qv (fun _ : Unit => True) (Bq (dC, dI) (fun _ : Unit => []) (fun _ : Unit => []) (va_A [(h0, .inr (5, [.null, .null, .int 0, .int 0]))] sz)) (va_A [(h0, .inr (5, [.null, .null, .int 0, .int 0]))] sz)) 9 72 (va_A [(h0, .inr (5, [.null, .null, .int 0, .int 0]))] sz) := by
  refine Met.ofW (cc := cX3_init) (maxL := 3) (ret := none) (by decide) rfl ?_
  intro p e s m args below meth c s₁ B hml hv
  obtain ⟨rfl, hsz, hP, hK, hD0, hN, hZ⟩ := hv
  have hx := B.exec
  have hb := B.bytes
  have hr := B.returns
  have hts := atoms_spec (ws := wp_X3_init) B.pre
  have hown : s.vm.findClass RX3 = some m.cls := findClass_of_methodNamed B.named
  have hlocks := B.notSynchronized
  have hin : meth.name = "<init>" := (name_of_methodNamed B.named B.method).1
  have iRX3 : ∀ w ∈ u_ws RX3 TX3 4, w ∈ wp_X3_init := by decide +kernel
  have iRX2 : ∀ w ∈ u_ws RX2 TX2 8, w ∈ wp_X3_init := by decide +kernel
  subst hsz
  have hD := hD0.self (sz := s.heap.size)
  generalize hAe : va_A [(h0, .inr (5, [.null, .null, .int 0, .int 0]))] s.heap.size = A at hD hZ ⊢
  have hA : ∀ q : Nat, s.heap.size ≤ q → A q := fun q h => by rw [← hAe]; exact Or.inr h
  have hS : va_S A s.heap s.heap [] := va_S.rf
  have hP : va_P (dC, dI) vwCl [(h0, .inr (5, [.null, .null, .int 0, .int 0]))] s.heap := hP
  have hl := lv_entry ([.ref h0, .ref m0]) (n := 3) (Nat.le_of_ble_eq_true rfl)
  rw [lg_entry_eq]
  generalize (lg_sl ([.ref h0, .ref m0]) ++ List.replicate (3 - (lg_sl ([.ref h0, .ref m0])).length) Slot.unset).toArray = ls at hl ⊢
  have hl : lv_has ls 3 [(0, .ref h0), (1, .ref m0)] := hl
  refine lv_aload_n hx hb dX3_init_0 rfl (lv_at hl 0 rfl) ?_
  refine W.objInit hx hb hown (hts (.methodLink RX3 3 objectInit) (by decide +kernel)) (hts (.instanceMethod objectInit) (by decide +kernel)) (hts (.code objectInit ⟨#[0xb1]⟩ 1 none) (by decide +kernel)) rfl (by rw [hml]; exact hl.1) rfl dX3_init_1 (Nat.le_of_ble_eq_true rfl) (Nat.le_of_ble_eq_true rfl) ?_
  refine W.eq (g2 := F0 m 4 ls []) rfl ?_
  refine lv_aload_n hx hb dX3_init_4 rfl (lv_at hl 0 rfl) ?_
  refine lv_aload_n hx hb dX3_init_5 rfl (lv_at hl 1 rfl) ?_
  refine va_putF (D := (dC, dI)) (ci := 5) (v := .ref m0) (ty := (.array (.object "RecordBench$Make"))) (C := RX3) (T := TX3) (N := 4) hx hb hts iRX3 tyX3 tyX3_ok nmX3 hown hK hP hD hS 0 rfl rfl 0 (by decide) (hts (.fieldLink RX3 9 "RecordBench$RecordReader" "makes" "[LRecordBench$Make;") (by decide +kernel)) (fun _ h9 => h9) rfl hin rfl (by decide +kernel) rfl rfl (Nat.le_of_ble_eq_true rfl) dX3_init_6 (fun H locs hP hD hS => ?_)
  have hP : va_P (dC, dI) vwCl [(h0, .inr (5, [.ref m0, .null, .int 0, .int 0]))] H := hP
  have hD : va_D A [(h0, .inr (5, [.ref m0, .null, .int 0, .int 0]))] := hD
  refine lv_aload_n hx hb dX3_init_9 rfl (lv_at hl 0 rfl) ?_
  refine lv_bipush (v := 8) hx hb dX3_init_10 (by decide) ?_
  refine va_newq (C := RX2) hx hb hown (hts (.classLink RX3 15 RX2) (by decide +kernel)) hN.2.2.2.2.2.1 hK hP hD hS hA (n := 8) (N' := 8) (by decide) (by decide) (by decide) (Nat.le_of_ble_eq_true rfl) (Nat.le_of_ble_eq_true rfl) dX3_init_12 (fun q_1 cA_2 H hK hP hD hS => ?_)
  have hP : va_P (dC, dI) vwCl [(h0, .inr (5, [.ref m0, .null, .int 0, .int 0])), (q_1, .inl (cA_2, 8, .inr (.inr (.inr (.inr (fun _ => none))))))] H := hP
  have hD : va_D A [(h0, .inr (5, [.ref m0, .null, .int 0, .int 0])), (q_1, .inl (cA_2, 8, .inr (.inr (.inr (.inr (fun _ => none))))))] := hD
  have hK : va_K (dC, dI) vwCl [(cA_2, .object RX2)] s := hK
  refine W.widen (k := 1) (n := 8) (by omega) (by omega) ?_
  refine va_putF (D := (dC, dI)) (ci := 5) (v := .ref q_1) (ty := (.array (.object "RecordBench$Piece"))) (C := RX3) (T := TX3) (N := 4) hx hb hts iRX3 tyX3 tyX3_ok nmX3 hown hK hP hD hS 0 rfl rfl 1 (by decide) (hts (.fieldLink RX3 17 "RecordBench$RecordReader" "pieces" "[LRecordBench$Piece;") (by decide +kernel)) (fun _ h9 => h9) rfl hin rfl (by decide +kernel) rfl rfl (Nat.le_of_ble_eq_true rfl) dX3_init_15 (fun H locs hP hD hS => ?_)
  have hP : va_P (dC, dI) vwCl [(h0, .inr (5, [.ref m0, .ref q_1, .int 0, .int 0])), (q_1, .inl (cA_2, 8, .inr (.inr (.inr (.inr (fun _ => none))))))] H := hP
  have hD : va_D A [(h0, .inr (5, [.ref m0, .ref q_1, .int 0, .int 0])), (q_1, .inl (cA_2, 8, .inr (.inr (.inr (.inr (fun _ => none))))))] := hD
  refine lv_iconst (v := 0) hx hb dX3_init_18 (by decide) ?_
  refine lv_istore_n (lv' := [(2, .int 0), (0, .ref h0), (1, .ref m0)]) hx hb dX3_init_19 rfl hl (by decide) rfl (fun ls hl => ?_)
  refine lv_iload_n hx hb dX3_init_20 rfl (lv_at hl 0 rfl) ?_
  refine lv_bipush (v := 8) hx hb dX3_init_21 (by decide) ?_
  refine lv_icmp_ge (tgt := 45) hx hb dX3_init_23 (by decide) (fun c_3 => absurd c_3 (by decide)) (fun c_3 => ?_)
  refine lv_aload_n hx hb dX3_init_26 rfl (lv_at hl 1 rfl) ?_
  refine va_get (D := (dC, dI)) (ci := 5) (v := .ref q_1) (C := RX3) (T := TX3) (N := 4) hx hb hts iRX3 hown hK hP 0 rfl rfl 1 (by decide) (hts (.fieldLink RX3 17 "RecordBench$RecordReader" "pieces" "[LRecordBench$Piece;") (by decide +kernel)) (fun _ h9 => h9) rfl dX3_init_27 ?_
  refine lv_iload_n hx hb dX3_init_30 rfl (lv_at hl 0 rfl) ?_
  refine va_new (ci := 4) (fs := [.int 0, .int 0, .long 0, .int 0, .int 0, .int 0, .int 0, .int 0]) (C := RX2) (T := TX2) (N := 8) hx hb hts iRX2 tyX2 tyX2_ok hown (hts (.classLink RX3 15 RX2) (by decide +kernel)) (hts (.instantiable RX2 8) (by decide +kernel)) (hts (.initialized RX2) (by decide +kernel)) hK hP hD hS hA rfl fsX2_ok (Nat.le_of_ble_eq_true rfl) (Nat.le_of_ble_eq_true rfl) dX3_init_31 (fun q_4 H hP hD hS => ?_)
  have hP : va_P (dC, dI) vwCl [(h0, .inr (5, [.ref m0, .ref q_1, .int 0, .int 0])), (q_1, .inl (cA_2, 8, .inr (.inr (.inr (.inr (fun _ => none)))))), (q_4, .inr (4, [.int 0, .int 0, .long 0, .int 0, .int 0, .int 0, .int 0, .int 0]))] H := hP
  have hD : va_D A [(h0, .inr (5, [.ref m0, .ref q_1, .int 0, .int 0])), (q_1, .inl (cA_2, 8, .inr (.inr (.inr (.inr (fun _ => none)))))), (q_4, .inr (4, [.int 0, .int 0, .long 0, .int 0, .int 0, .int 0, .int 0, .int 0]))] := hD
  refine W.widen (k := 2) (n := 16) (by omega) (by omega) ?_
  refine lv_dup hx hb dX3_init_34 rfl ?_
  have hFc := va_free (wc := [(q_4, .inr (4, [.int 0, .int 0, .long 0, .int 0, .int 0, .int 0, .int 0, .int 0]))]) hD hS hA [2] rfl
  refine va_callv (va_runIN (As := []) (rest := [.ref q_4, .int 0, .ref q_1]) ⟨hx, hb, hml, hown, hts⟩ (c_X2_init l dC dI q_4 H.size) ⟨va_cnB 0 hts gp_X3_init_X2_init_21 rfl rfl rfl hN.1 (hts (.initialized RX2) (by decide +kernel)) (by decide +kernel) ⟨Nat.le_of_ble_eq_true rfl, Nat.le_of_ble_eq_true rfl⟩, rfl, (hts (.instanceMethod yX2_init) (by decide +kernel))⟩ ⟨Pr.blind _, fun U hU hW => ⟨rfl, Pr.at (hP.sub (ws' := [(q_4, .inr (4, [.int 0, .int 0, .long 0, .int 0, .int 0, .int 0, .int 0, .int 0]))]) [2] rfl) (hK.sub (tys' := []) [] rfl) (hD.sub (ws' := [(q_4, .inr (4, [.int 0, .int 0, .long 0, .int 0, .int 0, .int 0, .int 0, .int 0]))]) [2] (by decide) rfl) hN hZ hS hFc hU hW⟩⟩ rfl rfl hl.1 rfl (lv_room (Nat.le_of_ble_eq_true rfl)) dX3_init_35 ⟨Nat.le_of_ble_eq_true rfl, Nat.le_of_ble_eq_true rfl⟩) hS (fun q _ h => hFc q h) hFc (fun u t H1 locs ht hvm hw_6 hB hz1 hk1 hS => ?_)
  obtain ⟨hP, hD, hK⟩ := Bq.join (wr := [(h0, .inr (5, [.ref m0, .ref q_1, .int 0, .int 0])), (q_1, .inl (cA_2, 8, .inr (.inr (.inr (.inr (fun _ => none))))))]) hB ht hvm hP hD [2] [0, 1] rfl rfl (by decide) (by decide) hk1 hFc hK
  generalize H1 = H at hP hS ⊢
  have hP : va_P (dC, dI) vwCl [(h0, .inr (5, [.ref m0, .ref q_1, .int 0, .int 0])), (q_1, .inl (cA_2, 8, .inr (.inr (.inr (.inr (fun _ => none)))))), (q_4, .inr (4, [.int 0, .int 0, .long 0, .int 0, .int 0, .int 0, .int 0, .int 0]))] H := hP
  have hD : va_D A [(h0, .inr (5, [.ref m0, .ref q_1, .int 0, .int 0])), (q_1, .inl (cA_2, 8, .inr (.inr (.inr (.inr (fun _ => none)))))), (q_4, .inr (4, [.int 0, .int 0, .long 0, .int 0, .int 0, .int 0, .int 0, .int 0]))] := hD
  have hK : va_K (dC, dI) vwCl [(cA_2, .object RX2)] s := hK
  refine va_astq hx hb hK hP hD hS 1 0 2 4 rfl rfl rfl rfl (by unfold vp_in; decide) dX3_init_38 (fun H locs hP hD hS => ?_)
  obtain ⟨f_7, ef_7⟩ : ∃ y : Nat → Option Nat, y = va_up (fun _ => none) 0 (some q_4) := ⟨_, rfl⟩
  have hP : va_P (dC, dI) vwCl [(h0, .inr (5, [.ref m0, .ref q_1, .int 0, .int 0])), (q_1, .inl (cA_2, 8, .inr (.inr (.inr (.inr f_7))))), (q_4, .inr (4, [.int 0, .int 0, .long 0, .int 0, .int 0, .int 0, .int 0, .int 0]))] H := by rw [ef_7]; exact hP
  have hD : va_D A [(h0, .inr (5, [.ref m0, .ref q_1, .int 0, .int 0])), (q_1, .inl (cA_2, 8, .inr (.inr (.inr (.inr f_7))))), (q_4, .inr (4, [.int 0, .int 0, .long 0, .int 0, .int 0, .int 0, .int 0, .int 0]))] := by rw [ef_7]; exact hD
  have hP := hP.sub (ws' := [(h0, .inr (5, [.ref m0, .ref q_1, .int 0, .int 0])), (q_1, .inl (cA_2, 8, .inr (.inr (.inr (.inr f_7)))))]) [0, 1] rfl
  have hD := hD.sub (ws' := [(h0, .inr (5, [.ref m0, .ref q_1, .int 0, .int 0])), (q_1, .inl (cA_2, 8, .inr (.inr (.inr (.inr f_7)))))]) [0, 1] (by decide) rfl
  refine lv_iinc (v := 1) (lv' := [(2, .int 1), (0, .ref h0), (1, .ref m0)]) hx hb dX3_init_39 hl (k := 0) rfl (by decide) (by decide) rfl (fun ls hl => ?_)
  refine lv_goto (tgt := 20) hx hb dX3_init_42 (by decide) ?_
  refine lv_iload_n hx hb dX3_init_20 rfl (lv_at hl 0 rfl) ?_
  refine lv_bipush (v := 8) hx hb dX3_init_21 (by decide) ?_
  refine lv_icmp_ge (tgt := 45) hx hb dX3_init_23 (by decide) (fun c_8 => absurd c_8 (by decide)) (fun c_8 => ?_)
  refine lv_aload_n hx hb dX3_init_26 rfl (lv_at hl 1 rfl) ?_
  refine va_get (D := (dC, dI)) (ci := 5) (v := .ref q_1) (C := RX3) (T := TX3) (N := 4) hx hb hts iRX3 hown hK hP 0 rfl rfl 1 (by decide) (hts (.fieldLink RX3 17 "RecordBench$RecordReader" "pieces" "[LRecordBench$Piece;") (by decide +kernel)) (fun _ h9 => h9) rfl dX3_init_27 ?_
  refine lv_iload_n hx hb dX3_init_30 rfl (lv_at hl 0 rfl) ?_
  refine va_new (ci := 4) (fs := [.int 0, .int 0, .long 0, .int 0, .int 0, .int 0, .int 0, .int 0]) (C := RX2) (T := TX2) (N := 8) hx hb hts iRX2 tyX2 tyX2_ok hown (hts (.classLink RX3 15 RX2) (by decide +kernel)) (hts (.instantiable RX2 8) (by decide +kernel)) (hts (.initialized RX2) (by decide +kernel)) hK hP hD hS hA rfl fsX2_ok (Nat.le_of_ble_eq_true rfl) (Nat.le_of_ble_eq_true rfl) dX3_init_31 (fun q_9 H hP hD hS => ?_)
  have hP : va_P (dC, dI) vwCl [(h0, .inr (5, [.ref m0, .ref q_1, .int 0, .int 0])), (q_1, .inl (cA_2, 8, .inr (.inr (.inr (.inr f_7))))), (q_9, .inr (4, [.int 0, .int 0, .long 0, .int 0, .int 0, .int 0, .int 0, .int 0]))] H := hP
  have hD : va_D A [(h0, .inr (5, [.ref m0, .ref q_1, .int 0, .int 0])), (q_1, .inl (cA_2, 8, .inr (.inr (.inr (.inr f_7))))), (q_9, .inr (4, [.int 0, .int 0, .long 0, .int 0, .int 0, .int 0, .int 0, .int 0]))] := hD
  refine W.widen (k := 3) (n := 24) (by omega) (by omega) ?_
  refine lv_dup hx hb dX3_init_34 rfl ?_
  have hFc := va_free (wc := [(q_9, .inr (4, [.int 0, .int 0, .long 0, .int 0, .int 0, .int 0, .int 0, .int 0]))]) hD hS hA [2] rfl
  refine va_callv (va_runIN (As := []) (rest := [.ref q_9, .int 1, .ref q_1]) ⟨hx, hb, hml, hown, hts⟩ (c_X2_init l dC dI q_9 H.size) ⟨va_cnB 0 hts gp_X3_init_X2_init_21 rfl rfl rfl hN.1 (hts (.initialized RX2) (by decide +kernel)) (by decide +kernel) ⟨Nat.le_of_ble_eq_true rfl, Nat.le_of_ble_eq_true rfl⟩, rfl, (hts (.instanceMethod yX2_init) (by decide +kernel))⟩ ⟨Pr.blind _, fun U hU hW => ⟨rfl, Pr.at (hP.sub (ws' := [(q_9, .inr (4, [.int 0, .int 0, .long 0, .int 0, .int 0, .int 0, .int 0, .int 0]))]) [2] rfl) (hK.sub (tys' := []) [] rfl) (hD.sub (ws' := [(q_9, .inr (4, [.int 0, .int 0, .long 0, .int 0, .int 0, .int 0, .int 0, .int 0]))]) [2] (by decide) rfl) hN hZ hS hFc hU hW⟩⟩ rfl rfl hl.1 rfl (lv_room (Nat.le_of_ble_eq_true rfl)) dX3_init_35 ⟨Nat.le_of_ble_eq_true rfl, Nat.le_of_ble_eq_true rfl⟩) hS (fun q _ h => hFc q h) hFc (fun u t H1 locs ht hvm hw_11 hB hz1 hk1 hS => ?_)
  obtain ⟨hP, hD, hK⟩ := Bq.join (wr := [(h0, .inr (5, [.ref m0, .ref q_1, .int 0, .int 0])), (q_1, .inl (cA_2, 8, .inr (.inr (.inr (.inr f_7)))))]) hB ht hvm hP hD [2] [0, 1] rfl rfl (by decide) (by decide) hk1 hFc hK
  generalize H1 = H at hP hS ⊢
  have hP : va_P (dC, dI) vwCl [(h0, .inr (5, [.ref m0, .ref q_1, .int 0, .int 0])), (q_1, .inl (cA_2, 8, .inr (.inr (.inr (.inr f_7))))), (q_9, .inr (4, [.int 0, .int 0, .long 0, .int 0, .int 0, .int 0, .int 0, .int 0]))] H := hP
  have hD : va_D A [(h0, .inr (5, [.ref m0, .ref q_1, .int 0, .int 0])), (q_1, .inl (cA_2, 8, .inr (.inr (.inr (.inr f_7))))), (q_9, .inr (4, [.int 0, .int 0, .long 0, .int 0, .int 0, .int 0, .int 0, .int 0]))] := hD
  have hK : va_K (dC, dI) vwCl [(cA_2, .object RX2)] s := hK
  refine va_astq hx hb hK hP hD hS 1 0 2 4 rfl rfl rfl rfl (by unfold vp_in; decide) dX3_init_38 (fun H locs hP hD hS => ?_)
  obtain ⟨f_12, ef_12⟩ : ∃ y : Nat → Option Nat, y = va_up f_7 1 (some q_9) := ⟨_, rfl⟩
  have hP : va_P (dC, dI) vwCl [(h0, .inr (5, [.ref m0, .ref q_1, .int 0, .int 0])), (q_1, .inl (cA_2, 8, .inr (.inr (.inr (.inr f_12))))), (q_9, .inr (4, [.int 0, .int 0, .long 0, .int 0, .int 0, .int 0, .int 0, .int 0]))] H := by rw [ef_12]; exact hP
  have hD : va_D A [(h0, .inr (5, [.ref m0, .ref q_1, .int 0, .int 0])), (q_1, .inl (cA_2, 8, .inr (.inr (.inr (.inr f_12))))), (q_9, .inr (4, [.int 0, .int 0, .long 0, .int 0, .int 0, .int 0, .int 0, .int 0]))] := by rw [ef_12]; exact hD
  have hP := hP.sub (ws' := [(h0, .inr (5, [.ref m0, .ref q_1, .int 0, .int 0])), (q_1, .inl (cA_2, 8, .inr (.inr (.inr (.inr f_12)))))]) [0, 1] rfl
  have hD := hD.sub (ws' := [(h0, .inr (5, [.ref m0, .ref q_1, .int 0, .int 0])), (q_1, .inl (cA_2, 8, .inr (.inr (.inr (.inr f_12)))))]) [0, 1] (by decide) rfl
  refine lv_iinc (v := 2) (lv' := [(2, .int 2), (0, .ref h0), (1, .ref m0)]) hx hb dX3_init_39 hl (k := 0) rfl (by decide) (by decide) rfl (fun ls hl => ?_)
  refine lv_goto (tgt := 20) hx hb dX3_init_42 (by decide) ?_
  refine lv_iload_n hx hb dX3_init_20 rfl (lv_at hl 0 rfl) ?_
  refine lv_bipush (v := 8) hx hb dX3_init_21 (by decide) ?_
  refine lv_icmp_ge (tgt := 45) hx hb dX3_init_23 (by decide) (fun c_13 => absurd c_13 (by decide)) (fun c_13 => ?_)
  refine lv_aload_n hx hb dX3_init_26 rfl (lv_at hl 1 rfl) ?_
  refine va_get (D := (dC, dI)) (ci := 5) (v := .ref q_1) (C := RX3) (T := TX3) (N := 4) hx hb hts iRX3 hown hK hP 0 rfl rfl 1 (by decide) (hts (.fieldLink RX3 17 "RecordBench$RecordReader" "pieces" "[LRecordBench$Piece;") (by decide +kernel)) (fun _ h9 => h9) rfl dX3_init_27 ?_
  refine lv_iload_n hx hb dX3_init_30 rfl (lv_at hl 0 rfl) ?_
  refine va_new (ci := 4) (fs := [.int 0, .int 0, .long 0, .int 0, .int 0, .int 0, .int 0, .int 0]) (C := RX2) (T := TX2) (N := 8) hx hb hts iRX2 tyX2 tyX2_ok hown (hts (.classLink RX3 15 RX2) (by decide +kernel)) (hts (.instantiable RX2 8) (by decide +kernel)) (hts (.initialized RX2) (by decide +kernel)) hK hP hD hS hA rfl fsX2_ok (Nat.le_of_ble_eq_true rfl) (Nat.le_of_ble_eq_true rfl) dX3_init_31 (fun q_14 H hP hD hS => ?_)
  have hP : va_P (dC, dI) vwCl [(h0, .inr (5, [.ref m0, .ref q_1, .int 0, .int 0])), (q_1, .inl (cA_2, 8, .inr (.inr (.inr (.inr f_12))))), (q_14, .inr (4, [.int 0, .int 0, .long 0, .int 0, .int 0, .int 0, .int 0, .int 0]))] H := hP
  have hD : va_D A [(h0, .inr (5, [.ref m0, .ref q_1, .int 0, .int 0])), (q_1, .inl (cA_2, 8, .inr (.inr (.inr (.inr f_12))))), (q_14, .inr (4, [.int 0, .int 0, .long 0, .int 0, .int 0, .int 0, .int 0, .int 0]))] := hD
  refine W.widen (k := 4) (n := 32) (by omega) (by omega) ?_
  refine lv_dup hx hb dX3_init_34 rfl ?_
  have hFc := va_free (wc := [(q_14, .inr (4, [.int 0, .int 0, .long 0, .int 0, .int 0, .int 0, .int 0, .int 0]))]) hD hS hA [2] rfl
  refine va_callv (va_runIN (As := []) (rest := [.ref q_14, .int 2, .ref q_1]) ⟨hx, hb, hml, hown, hts⟩ (c_X2_init l dC dI q_14 H.size) ⟨va_cnB 0 hts gp_X3_init_X2_init_21 rfl rfl rfl hN.1 (hts (.initialized RX2) (by decide +kernel)) (by decide +kernel) ⟨Nat.le_of_ble_eq_true rfl, Nat.le_of_ble_eq_true rfl⟩, rfl, (hts (.instanceMethod yX2_init) (by decide +kernel))⟩ ⟨Pr.blind _, fun U hU hW => ⟨rfl, Pr.at (hP.sub (ws' := [(q_14, .inr (4, [.int 0, .int 0, .long 0, .int 0, .int 0, .int 0, .int 0, .int 0]))]) [2] rfl) (hK.sub (tys' := []) [] rfl) (hD.sub (ws' := [(q_14, .inr (4, [.int 0, .int 0, .long 0, .int 0, .int 0, .int 0, .int 0, .int 0]))]) [2] (by decide) rfl) hN hZ hS hFc hU hW⟩⟩ rfl rfl hl.1 rfl (lv_room (Nat.le_of_ble_eq_true rfl)) dX3_init_35 ⟨Nat.le_of_ble_eq_true rfl, Nat.le_of_ble_eq_true rfl⟩) hS (fun q _ h => hFc q h) hFc (fun u t H1 locs ht hvm hw_16 hB hz1 hk1 hS => ?_)
  obtain ⟨hP, hD, hK⟩ := Bq.join (wr := [(h0, .inr (5, [.ref m0, .ref q_1, .int 0, .int 0])), (q_1, .inl (cA_2, 8, .inr (.inr (.inr (.inr f_12)))))]) hB ht hvm hP hD [2] [0, 1] rfl rfl (by decide) (by decide) hk1 hFc hK
  generalize H1 = H at hP hS ⊢
  have hP : va_P (dC, dI) vwCl [(h0, .inr (5, [.ref m0, .ref q_1, .int 0, .int 0])), (q_1, .inl (cA_2, 8, .inr (.inr (.inr (.inr f_12))))), (q_14, .inr (4, [.int 0, .int 0, .long 0, .int 0, .int 0, .int 0, .int 0, .int 0]))] H := hP
  have hD : va_D A [(h0, .inr (5, [.ref m0, .ref q_1, .int 0, .int 0])), (q_1, .inl (cA_2, 8, .inr (.inr (.inr (.inr f_12))))), (q_14, .inr (4, [.int 0, .int 0, .long 0, .int 0, .int 0, .int 0, .int 0, .int 0]))] := hD
  have hK : va_K (dC, dI) vwCl [(cA_2, .object RX2)] s := hK
  refine va_astq hx hb hK hP hD hS 1 0 2 4 rfl rfl rfl rfl (by unfold vp_in; decide) dX3_init_38 (fun H locs hP hD hS => ?_)
  obtain ⟨f_17, ef_17⟩ : ∃ y : Nat → Option Nat, y = va_up f_12 2 (some q_14) := ⟨_, rfl⟩
  have hP : va_P (dC, dI) vwCl [(h0, .inr (5, [.ref m0, .ref q_1, .int 0, .int 0])), (q_1, .inl (cA_2, 8, .inr (.inr (.inr (.inr f_17))))), (q_14, .inr (4, [.int 0, .int 0, .long 0, .int 0, .int 0, .int 0, .int 0, .int 0]))] H := by rw [ef_17]; exact hP
  have hD : va_D A [(h0, .inr (5, [.ref m0, .ref q_1, .int 0, .int 0])), (q_1, .inl (cA_2, 8, .inr (.inr (.inr (.inr f_17))))), (q_14, .inr (4, [.int 0, .int 0, .long 0, .int 0, .int 0, .int 0, .int 0, .int 0]))] := by rw [ef_17]; exact hD
  have hP := hP.sub (ws' := [(h0, .inr (5, [.ref m0, .ref q_1, .int 0, .int 0])), (q_1, .inl (cA_2, 8, .inr (.inr (.inr (.inr f_17)))))]) [0, 1] rfl
  have hD := hD.sub (ws' := [(h0, .inr (5, [.ref m0, .ref q_1, .int 0, .int 0])), (q_1, .inl (cA_2, 8, .inr (.inr (.inr (.inr f_17)))))]) [0, 1] (by decide) rfl
  refine lv_iinc (v := 3) (lv' := [(2, .int 3), (0, .ref h0), (1, .ref m0)]) hx hb dX3_init_39 hl (k := 0) rfl (by decide) (by decide) rfl (fun ls hl => ?_)
  refine lv_goto (tgt := 20) hx hb dX3_init_42 (by decide) ?_
  refine lv_iload_n hx hb dX3_init_20 rfl (lv_at hl 0 rfl) ?_
  refine lv_bipush (v := 8) hx hb dX3_init_21 (by decide) ?_
  refine lv_icmp_ge (tgt := 45) hx hb dX3_init_23 (by decide) (fun c_18 => absurd c_18 (by decide)) (fun c_18 => ?_)
  refine lv_aload_n hx hb dX3_init_26 rfl (lv_at hl 1 rfl) ?_
  refine va_get (D := (dC, dI)) (ci := 5) (v := .ref q_1) (C := RX3) (T := TX3) (N := 4) hx hb hts iRX3 hown hK hP 0 rfl rfl 1 (by decide) (hts (.fieldLink RX3 17 "RecordBench$RecordReader" "pieces" "[LRecordBench$Piece;") (by decide +kernel)) (fun _ h9 => h9) rfl dX3_init_27 ?_
  refine lv_iload_n hx hb dX3_init_30 rfl (lv_at hl 0 rfl) ?_
  refine va_new (ci := 4) (fs := [.int 0, .int 0, .long 0, .int 0, .int 0, .int 0, .int 0, .int 0]) (C := RX2) (T := TX2) (N := 8) hx hb hts iRX2 tyX2 tyX2_ok hown (hts (.classLink RX3 15 RX2) (by decide +kernel)) (hts (.instantiable RX2 8) (by decide +kernel)) (hts (.initialized RX2) (by decide +kernel)) hK hP hD hS hA rfl fsX2_ok (Nat.le_of_ble_eq_true rfl) (Nat.le_of_ble_eq_true rfl) dX3_init_31 (fun q_19 H hP hD hS => ?_)
  have hP : va_P (dC, dI) vwCl [(h0, .inr (5, [.ref m0, .ref q_1, .int 0, .int 0])), (q_1, .inl (cA_2, 8, .inr (.inr (.inr (.inr f_17))))), (q_19, .inr (4, [.int 0, .int 0, .long 0, .int 0, .int 0, .int 0, .int 0, .int 0]))] H := hP
  have hD : va_D A [(h0, .inr (5, [.ref m0, .ref q_1, .int 0, .int 0])), (q_1, .inl (cA_2, 8, .inr (.inr (.inr (.inr f_17))))), (q_19, .inr (4, [.int 0, .int 0, .long 0, .int 0, .int 0, .int 0, .int 0, .int 0]))] := hD
  refine W.widen (k := 5) (n := 40) (by omega) (by omega) ?_
  refine lv_dup hx hb dX3_init_34 rfl ?_
  have hFc := va_free (wc := [(q_19, .inr (4, [.int 0, .int 0, .long 0, .int 0, .int 0, .int 0, .int 0, .int 0]))]) hD hS hA [2] rfl
  refine va_callv (va_runIN (As := []) (rest := [.ref q_19, .int 3, .ref q_1]) ⟨hx, hb, hml, hown, hts⟩ (c_X2_init l dC dI q_19 H.size) ⟨va_cnB 0 hts gp_X3_init_X2_init_21 rfl rfl rfl hN.1 (hts (.initialized RX2) (by decide +kernel)) (by decide +kernel) ⟨Nat.le_of_ble_eq_true rfl, Nat.le_of_ble_eq_true rfl⟩, rfl, (hts (.instanceMethod yX2_init) (by decide +kernel))⟩ ⟨Pr.blind _, fun U hU hW => ⟨rfl, Pr.at (hP.sub (ws' := [(q_19, .inr (4, [.int 0, .int 0, .long 0, .int 0, .int 0, .int 0, .int 0, .int 0]))]) [2] rfl) (hK.sub (tys' := []) [] rfl) (hD.sub (ws' := [(q_19, .inr (4, [.int 0, .int 0, .long 0, .int 0, .int 0, .int 0, .int 0, .int 0]))]) [2] (by decide) rfl) hN hZ hS hFc hU hW⟩⟩ rfl rfl hl.1 rfl (lv_room (Nat.le_of_ble_eq_true rfl)) dX3_init_35 ⟨Nat.le_of_ble_eq_true rfl, Nat.le_of_ble_eq_true rfl⟩) hS (fun q _ h => hFc q h) hFc (fun u t H1 locs ht hvm hw_21 hB hz1 hk1 hS => ?_)
  obtain ⟨hP, hD, hK⟩ := Bq.join (wr := [(h0, .inr (5, [.ref m0, .ref q_1, .int 0, .int 0])), (q_1, .inl (cA_2, 8, .inr (.inr (.inr (.inr f_17)))))]) hB ht hvm hP hD [2] [0, 1] rfl rfl (by decide) (by decide) hk1 hFc hK
  generalize H1 = H at hP hS ⊢
  have hP : va_P (dC, dI) vwCl [(h0, .inr (5, [.ref m0, .ref q_1, .int 0, .int 0])), (q_1, .inl (cA_2, 8, .inr (.inr (.inr (.inr f_17))))), (q_19, .inr (4, [.int 0, .int 0, .long 0, .int 0, .int 0, .int 0, .int 0, .int 0]))] H := hP
  have hD : va_D A [(h0, .inr (5, [.ref m0, .ref q_1, .int 0, .int 0])), (q_1, .inl (cA_2, 8, .inr (.inr (.inr (.inr f_17))))), (q_19, .inr (4, [.int 0, .int 0, .long 0, .int 0, .int 0, .int 0, .int 0, .int 0]))] := hD
  have hK : va_K (dC, dI) vwCl [(cA_2, .object RX2)] s := hK
  refine va_astq hx hb hK hP hD hS 1 0 2 4 rfl rfl rfl rfl (by unfold vp_in; decide) dX3_init_38 (fun H locs hP hD hS => ?_)
  obtain ⟨f_22, ef_22⟩ : ∃ y : Nat → Option Nat, y = va_up f_17 3 (some q_19) := ⟨_, rfl⟩
  have hP : va_P (dC, dI) vwCl [(h0, .inr (5, [.ref m0, .ref q_1, .int 0, .int 0])), (q_1, .inl (cA_2, 8, .inr (.inr (.inr (.inr f_22))))), (q_19, .inr (4, [.int 0, .int 0, .long 0, .int 0, .int 0, .int 0, .int 0, .int 0]))] H := by rw [ef_22]; exact hP
  have hD : va_D A [(h0, .inr (5, [.ref m0, .ref q_1, .int 0, .int 0])), (q_1, .inl (cA_2, 8, .inr (.inr (.inr (.inr f_22))))), (q_19, .inr (4, [.int 0, .int 0, .long 0, .int 0, .int 0, .int 0, .int 0, .int 0]))] := by rw [ef_22]; exact hD
  have hP := hP.sub (ws' := [(h0, .inr (5, [.ref m0, .ref q_1, .int 0, .int 0])), (q_1, .inl (cA_2, 8, .inr (.inr (.inr (.inr f_22)))))]) [0, 1] rfl
  have hD := hD.sub (ws' := [(h0, .inr (5, [.ref m0, .ref q_1, .int 0, .int 0])), (q_1, .inl (cA_2, 8, .inr (.inr (.inr (.inr f_22)))))]) [0, 1] (by decide) rfl
  refine lv_iinc (v := 4) (lv' := [(2, .int 4), (0, .ref h0), (1, .ref m0)]) hx hb dX3_init_39 hl (k := 0) rfl (by decide) (by decide) rfl (fun ls hl => ?_)
  refine lv_goto (tgt := 20) hx hb dX3_init_42 (by decide) ?_
  refine lv_iload_n hx hb dX3_init_20 rfl (lv_at hl 0 rfl) ?_
  refine lv_bipush (v := 8) hx hb dX3_init_21 (by decide) ?_
  refine lv_icmp_ge (tgt := 45) hx hb dX3_init_23 (by decide) (fun c_23 => absurd c_23 (by decide)) (fun c_23 => ?_)
  refine lv_aload_n hx hb dX3_init_26 rfl (lv_at hl 1 rfl) ?_
  refine va_get (D := (dC, dI)) (ci := 5) (v := .ref q_1) (C := RX3) (T := TX3) (N := 4) hx hb hts iRX3 hown hK hP 0 rfl rfl 1 (by decide) (hts (.fieldLink RX3 17 "RecordBench$RecordReader" "pieces" "[LRecordBench$Piece;") (by decide +kernel)) (fun _ h9 => h9) rfl dX3_init_27 ?_
  refine lv_iload_n hx hb dX3_init_30 rfl (lv_at hl 0 rfl) ?_
  refine va_new (ci := 4) (fs := [.int 0, .int 0, .long 0, .int 0, .int 0, .int 0, .int 0, .int 0]) (C := RX2) (T := TX2) (N := 8) hx hb hts iRX2 tyX2 tyX2_ok hown (hts (.classLink RX3 15 RX2) (by decide +kernel)) (hts (.instantiable RX2 8) (by decide +kernel)) (hts (.initialized RX2) (by decide +kernel)) hK hP hD hS hA rfl fsX2_ok (Nat.le_of_ble_eq_true rfl) (Nat.le_of_ble_eq_true rfl) dX3_init_31 (fun q_24 H hP hD hS => ?_)
  have hP : va_P (dC, dI) vwCl [(h0, .inr (5, [.ref m0, .ref q_1, .int 0, .int 0])), (q_1, .inl (cA_2, 8, .inr (.inr (.inr (.inr f_22))))), (q_24, .inr (4, [.int 0, .int 0, .long 0, .int 0, .int 0, .int 0, .int 0, .int 0]))] H := hP
  have hD : va_D A [(h0, .inr (5, [.ref m0, .ref q_1, .int 0, .int 0])), (q_1, .inl (cA_2, 8, .inr (.inr (.inr (.inr f_22))))), (q_24, .inr (4, [.int 0, .int 0, .long 0, .int 0, .int 0, .int 0, .int 0, .int 0]))] := hD
  refine W.widen (k := 6) (n := 48) (by omega) (by omega) ?_
  refine lv_dup hx hb dX3_init_34 rfl ?_
  have hFc := va_free (wc := [(q_24, .inr (4, [.int 0, .int 0, .long 0, .int 0, .int 0, .int 0, .int 0, .int 0]))]) hD hS hA [2] rfl
  refine va_callv (va_runIN (As := []) (rest := [.ref q_24, .int 4, .ref q_1]) ⟨hx, hb, hml, hown, hts⟩ (c_X2_init l dC dI q_24 H.size) ⟨va_cnB 0 hts gp_X3_init_X2_init_21 rfl rfl rfl hN.1 (hts (.initialized RX2) (by decide +kernel)) (by decide +kernel) ⟨Nat.le_of_ble_eq_true rfl, Nat.le_of_ble_eq_true rfl⟩, rfl, (hts (.instanceMethod yX2_init) (by decide +kernel))⟩ ⟨Pr.blind _, fun U hU hW => ⟨rfl, Pr.at (hP.sub (ws' := [(q_24, .inr (4, [.int 0, .int 0, .long 0, .int 0, .int 0, .int 0, .int 0, .int 0]))]) [2] rfl) (hK.sub (tys' := []) [] rfl) (hD.sub (ws' := [(q_24, .inr (4, [.int 0, .int 0, .long 0, .int 0, .int 0, .int 0, .int 0, .int 0]))]) [2] (by decide) rfl) hN hZ hS hFc hU hW⟩⟩ rfl rfl hl.1 rfl (lv_room (Nat.le_of_ble_eq_true rfl)) dX3_init_35 ⟨Nat.le_of_ble_eq_true rfl, Nat.le_of_ble_eq_true rfl⟩) hS (fun q _ h => hFc q h) hFc (fun u t H1 locs ht hvm hw_26 hB hz1 hk1 hS => ?_)
  obtain ⟨hP, hD, hK⟩ := Bq.join (wr := [(h0, .inr (5, [.ref m0, .ref q_1, .int 0, .int 0])), (q_1, .inl (cA_2, 8, .inr (.inr (.inr (.inr f_22)))))]) hB ht hvm hP hD [2] [0, 1] rfl rfl (by decide) (by decide) hk1 hFc hK
  generalize H1 = H at hP hS ⊢
  have hP : va_P (dC, dI) vwCl [(h0, .inr (5, [.ref m0, .ref q_1, .int 0, .int 0])), (q_1, .inl (cA_2, 8, .inr (.inr (.inr (.inr f_22))))), (q_24, .inr (4, [.int 0, .int 0, .long 0, .int 0, .int 0, .int 0, .int 0, .int 0]))] H := hP
  have hD : va_D A [(h0, .inr (5, [.ref m0, .ref q_1, .int 0, .int 0])), (q_1, .inl (cA_2, 8, .inr (.inr (.inr (.inr f_22))))), (q_24, .inr (4, [.int 0, .int 0, .long 0, .int 0, .int 0, .int 0, .int 0, .int 0]))] := hD
  have hK : va_K (dC, dI) vwCl [(cA_2, .object RX2)] s := hK
  refine va_astq hx hb hK hP hD hS 1 0 2 4 rfl rfl rfl rfl (by unfold vp_in; decide) dX3_init_38 (fun H locs hP hD hS => ?_)
  obtain ⟨f_27, ef_27⟩ : ∃ y : Nat → Option Nat, y = va_up f_22 4 (some q_24) := ⟨_, rfl⟩
  have hP : va_P (dC, dI) vwCl [(h0, .inr (5, [.ref m0, .ref q_1, .int 0, .int 0])), (q_1, .inl (cA_2, 8, .inr (.inr (.inr (.inr f_27))))), (q_24, .inr (4, [.int 0, .int 0, .long 0, .int 0, .int 0, .int 0, .int 0, .int 0]))] H := by rw [ef_27]; exact hP
  have hD : va_D A [(h0, .inr (5, [.ref m0, .ref q_1, .int 0, .int 0])), (q_1, .inl (cA_2, 8, .inr (.inr (.inr (.inr f_27))))), (q_24, .inr (4, [.int 0, .int 0, .long 0, .int 0, .int 0, .int 0, .int 0, .int 0]))] := by rw [ef_27]; exact hD
  have hP := hP.sub (ws' := [(h0, .inr (5, [.ref m0, .ref q_1, .int 0, .int 0])), (q_1, .inl (cA_2, 8, .inr (.inr (.inr (.inr f_27)))))]) [0, 1] rfl
  have hD := hD.sub (ws' := [(h0, .inr (5, [.ref m0, .ref q_1, .int 0, .int 0])), (q_1, .inl (cA_2, 8, .inr (.inr (.inr (.inr f_27)))))]) [0, 1] (by decide) rfl
  refine lv_iinc (v := 5) (lv' := [(2, .int 5), (0, .ref h0), (1, .ref m0)]) hx hb dX3_init_39 hl (k := 0) rfl (by decide) (by decide) rfl (fun ls hl => ?_)
  refine lv_goto (tgt := 20) hx hb dX3_init_42 (by decide) ?_
  refine lv_iload_n hx hb dX3_init_20 rfl (lv_at hl 0 rfl) ?_
  refine lv_bipush (v := 8) hx hb dX3_init_21 (by decide) ?_
  refine lv_icmp_ge (tgt := 45) hx hb dX3_init_23 (by decide) (fun c_28 => absurd c_28 (by decide)) (fun c_28 => ?_)
  refine lv_aload_n hx hb dX3_init_26 rfl (lv_at hl 1 rfl) ?_
  refine va_get (D := (dC, dI)) (ci := 5) (v := .ref q_1) (C := RX3) (T := TX3) (N := 4) hx hb hts iRX3 hown hK hP 0 rfl rfl 1 (by decide) (hts (.fieldLink RX3 17 "RecordBench$RecordReader" "pieces" "[LRecordBench$Piece;") (by decide +kernel)) (fun _ h9 => h9) rfl dX3_init_27 ?_
  refine lv_iload_n hx hb dX3_init_30 rfl (lv_at hl 0 rfl) ?_
  refine va_new (ci := 4) (fs := [.int 0, .int 0, .long 0, .int 0, .int 0, .int 0, .int 0, .int 0]) (C := RX2) (T := TX2) (N := 8) hx hb hts iRX2 tyX2 tyX2_ok hown (hts (.classLink RX3 15 RX2) (by decide +kernel)) (hts (.instantiable RX2 8) (by decide +kernel)) (hts (.initialized RX2) (by decide +kernel)) hK hP hD hS hA rfl fsX2_ok (Nat.le_of_ble_eq_true rfl) (Nat.le_of_ble_eq_true rfl) dX3_init_31 (fun q_29 H hP hD hS => ?_)
  have hP : va_P (dC, dI) vwCl [(h0, .inr (5, [.ref m0, .ref q_1, .int 0, .int 0])), (q_1, .inl (cA_2, 8, .inr (.inr (.inr (.inr f_27))))), (q_29, .inr (4, [.int 0, .int 0, .long 0, .int 0, .int 0, .int 0, .int 0, .int 0]))] H := hP
  have hD : va_D A [(h0, .inr (5, [.ref m0, .ref q_1, .int 0, .int 0])), (q_1, .inl (cA_2, 8, .inr (.inr (.inr (.inr f_27))))), (q_29, .inr (4, [.int 0, .int 0, .long 0, .int 0, .int 0, .int 0, .int 0, .int 0]))] := hD
  refine W.widen (k := 7) (n := 56) (by omega) (by omega) ?_
  refine lv_dup hx hb dX3_init_34 rfl ?_
  have hFc := va_free (wc := [(q_29, .inr (4, [.int 0, .int 0, .long 0, .int 0, .int 0, .int 0, .int 0, .int 0]))]) hD hS hA [2] rfl
  refine va_callv (va_runIN (As := []) (rest := [.ref q_29, .int 5, .ref q_1]) ⟨hx, hb, hml, hown, hts⟩ (c_X2_init l dC dI q_29 H.size) ⟨va_cnB 0 hts gp_X3_init_X2_init_21 rfl rfl rfl hN.1 (hts (.initialized RX2) (by decide +kernel)) (by decide +kernel) ⟨Nat.le_of_ble_eq_true rfl, Nat.le_of_ble_eq_true rfl⟩, rfl, (hts (.instanceMethod yX2_init) (by decide +kernel))⟩ ⟨Pr.blind _, fun U hU hW => ⟨rfl, Pr.at (hP.sub (ws' := [(q_29, .inr (4, [.int 0, .int 0, .long 0, .int 0, .int 0, .int 0, .int 0, .int 0]))]) [2] rfl) (hK.sub (tys' := []) [] rfl) (hD.sub (ws' := [(q_29, .inr (4, [.int 0, .int 0, .long 0, .int 0, .int 0, .int 0, .int 0, .int 0]))]) [2] (by decide) rfl) hN hZ hS hFc hU hW⟩⟩ rfl rfl hl.1 rfl (lv_room (Nat.le_of_ble_eq_true rfl)) dX3_init_35 ⟨Nat.le_of_ble_eq_true rfl, Nat.le_of_ble_eq_true rfl⟩) hS (fun q _ h => hFc q h) hFc (fun u t H1 locs ht hvm hw_31 hB hz1 hk1 hS => ?_)
  obtain ⟨hP, hD, hK⟩ := Bq.join (wr := [(h0, .inr (5, [.ref m0, .ref q_1, .int 0, .int 0])), (q_1, .inl (cA_2, 8, .inr (.inr (.inr (.inr f_27)))))]) hB ht hvm hP hD [2] [0, 1] rfl rfl (by decide) (by decide) hk1 hFc hK
  generalize H1 = H at hP hS ⊢
  have hP : va_P (dC, dI) vwCl [(h0, .inr (5, [.ref m0, .ref q_1, .int 0, .int 0])), (q_1, .inl (cA_2, 8, .inr (.inr (.inr (.inr f_27))))), (q_29, .inr (4, [.int 0, .int 0, .long 0, .int 0, .int 0, .int 0, .int 0, .int 0]))] H := hP
  have hD : va_D A [(h0, .inr (5, [.ref m0, .ref q_1, .int 0, .int 0])), (q_1, .inl (cA_2, 8, .inr (.inr (.inr (.inr f_27))))), (q_29, .inr (4, [.int 0, .int 0, .long 0, .int 0, .int 0, .int 0, .int 0, .int 0]))] := hD
  have hK : va_K (dC, dI) vwCl [(cA_2, .object RX2)] s := hK
  refine va_astq hx hb hK hP hD hS 1 0 2 4 rfl rfl rfl rfl (by unfold vp_in; decide) dX3_init_38 (fun H locs hP hD hS => ?_)
  obtain ⟨f_32, ef_32⟩ : ∃ y : Nat → Option Nat, y = va_up f_27 5 (some q_29) := ⟨_, rfl⟩
  have hP : va_P (dC, dI) vwCl [(h0, .inr (5, [.ref m0, .ref q_1, .int 0, .int 0])), (q_1, .inl (cA_2, 8, .inr (.inr (.inr (.inr f_32))))), (q_29, .inr (4, [.int 0, .int 0, .long 0, .int 0, .int 0, .int 0, .int 0, .int 0]))] H := by rw [ef_32]; exact hP
  have hD : va_D A [(h0, .inr (5, [.ref m0, .ref q_1, .int 0, .int 0])), (q_1, .inl (cA_2, 8, .inr (.inr (.inr (.inr f_32))))), (q_29, .inr (4, [.int 0, .int 0, .long 0, .int 0, .int 0, .int 0, .int 0, .int 0]))] := by rw [ef_32]; exact hD
  have hP := hP.sub (ws' := [(h0, .inr (5, [.ref m0, .ref q_1, .int 0, .int 0])), (q_1, .inl (cA_2, 8, .inr (.inr (.inr (.inr f_32)))))]) [0, 1] rfl
  have hD := hD.sub (ws' := [(h0, .inr (5, [.ref m0, .ref q_1, .int 0, .int 0])), (q_1, .inl (cA_2, 8, .inr (.inr (.inr (.inr f_32)))))]) [0, 1] (by decide) rfl
  refine lv_iinc (v := 6) (lv' := [(2, .int 6), (0, .ref h0), (1, .ref m0)]) hx hb dX3_init_39 hl (k := 0) rfl (by decide) (by decide) rfl (fun ls hl => ?_)
  refine lv_goto (tgt := 20) hx hb dX3_init_42 (by decide) ?_
  refine lv_iload_n hx hb dX3_init_20 rfl (lv_at hl 0 rfl) ?_
  refine lv_bipush (v := 8) hx hb dX3_init_21 (by decide) ?_
  refine lv_icmp_ge (tgt := 45) hx hb dX3_init_23 (by decide) (fun c_33 => absurd c_33 (by decide)) (fun c_33 => ?_)
  refine lv_aload_n hx hb dX3_init_26 rfl (lv_at hl 1 rfl) ?_
  refine va_get (D := (dC, dI)) (ci := 5) (v := .ref q_1) (C := RX3) (T := TX3) (N := 4) hx hb hts iRX3 hown hK hP 0 rfl rfl 1 (by decide) (hts (.fieldLink RX3 17 "RecordBench$RecordReader" "pieces" "[LRecordBench$Piece;") (by decide +kernel)) (fun _ h9 => h9) rfl dX3_init_27 ?_
  refine lv_iload_n hx hb dX3_init_30 rfl (lv_at hl 0 rfl) ?_
  refine va_new (ci := 4) (fs := [.int 0, .int 0, .long 0, .int 0, .int 0, .int 0, .int 0, .int 0]) (C := RX2) (T := TX2) (N := 8) hx hb hts iRX2 tyX2 tyX2_ok hown (hts (.classLink RX3 15 RX2) (by decide +kernel)) (hts (.instantiable RX2 8) (by decide +kernel)) (hts (.initialized RX2) (by decide +kernel)) hK hP hD hS hA rfl fsX2_ok (Nat.le_of_ble_eq_true rfl) (Nat.le_of_ble_eq_true rfl) dX3_init_31 (fun q_34 H hP hD hS => ?_)
  have hP : va_P (dC, dI) vwCl [(h0, .inr (5, [.ref m0, .ref q_1, .int 0, .int 0])), (q_1, .inl (cA_2, 8, .inr (.inr (.inr (.inr f_32))))), (q_34, .inr (4, [.int 0, .int 0, .long 0, .int 0, .int 0, .int 0, .int 0, .int 0]))] H := hP
  have hD : va_D A [(h0, .inr (5, [.ref m0, .ref q_1, .int 0, .int 0])), (q_1, .inl (cA_2, 8, .inr (.inr (.inr (.inr f_32))))), (q_34, .inr (4, [.int 0, .int 0, .long 0, .int 0, .int 0, .int 0, .int 0, .int 0]))] := hD
  refine W.widen (k := 8) (n := 64) (by omega) (by omega) ?_
  refine lv_dup hx hb dX3_init_34 rfl ?_
  have hFc := va_free (wc := [(q_34, .inr (4, [.int 0, .int 0, .long 0, .int 0, .int 0, .int 0, .int 0, .int 0]))]) hD hS hA [2] rfl
  refine va_callv (va_runIN (As := []) (rest := [.ref q_34, .int 6, .ref q_1]) ⟨hx, hb, hml, hown, hts⟩ (c_X2_init l dC dI q_34 H.size) ⟨va_cnB 0 hts gp_X3_init_X2_init_21 rfl rfl rfl hN.1 (hts (.initialized RX2) (by decide +kernel)) (by decide +kernel) ⟨Nat.le_of_ble_eq_true rfl, Nat.le_of_ble_eq_true rfl⟩, rfl, (hts (.instanceMethod yX2_init) (by decide +kernel))⟩ ⟨Pr.blind _, fun U hU hW => ⟨rfl, Pr.at (hP.sub (ws' := [(q_34, .inr (4, [.int 0, .int 0, .long 0, .int 0, .int 0, .int 0, .int 0, .int 0]))]) [2] rfl) (hK.sub (tys' := []) [] rfl) (hD.sub (ws' := [(q_34, .inr (4, [.int 0, .int 0, .long 0, .int 0, .int 0, .int 0, .int 0, .int 0]))]) [2] (by decide) rfl) hN hZ hS hFc hU hW⟩⟩ rfl rfl hl.1 rfl (lv_room (Nat.le_of_ble_eq_true rfl)) dX3_init_35 ⟨Nat.le_of_ble_eq_true rfl, Nat.le_of_ble_eq_true rfl⟩) hS (fun q _ h => hFc q h) hFc (fun u t H1 locs ht hvm hw_36 hB hz1 hk1 hS => ?_)
  obtain ⟨hP, hD, hK⟩ := Bq.join (wr := [(h0, .inr (5, [.ref m0, .ref q_1, .int 0, .int 0])), (q_1, .inl (cA_2, 8, .inr (.inr (.inr (.inr f_32)))))]) hB ht hvm hP hD [2] [0, 1] rfl rfl (by decide) (by decide) hk1 hFc hK
  generalize H1 = H at hP hS ⊢
  have hP : va_P (dC, dI) vwCl [(h0, .inr (5, [.ref m0, .ref q_1, .int 0, .int 0])), (q_1, .inl (cA_2, 8, .inr (.inr (.inr (.inr f_32))))), (q_34, .inr (4, [.int 0, .int 0, .long 0, .int 0, .int 0, .int 0, .int 0, .int 0]))] H := hP
  have hD : va_D A [(h0, .inr (5, [.ref m0, .ref q_1, .int 0, .int 0])), (q_1, .inl (cA_2, 8, .inr (.inr (.inr (.inr f_32))))), (q_34, .inr (4, [.int 0, .int 0, .long 0, .int 0, .int 0, .int 0, .int 0, .int 0]))] := hD
  have hK : va_K (dC, dI) vwCl [(cA_2, .object RX2)] s := hK
  refine va_astq hx hb hK hP hD hS 1 0 2 4 rfl rfl rfl rfl (by unfold vp_in; decide) dX3_init_38 (fun H locs hP hD hS => ?_)
  obtain ⟨f_37, ef_37⟩ : ∃ y : Nat → Option Nat, y = va_up f_32 6 (some q_34) := ⟨_, rfl⟩
  have hP : va_P (dC, dI) vwCl [(h0, .inr (5, [.ref m0, .ref q_1, .int 0, .int 0])), (q_1, .inl (cA_2, 8, .inr (.inr (.inr (.inr f_37))))), (q_34, .inr (4, [.int 0, .int 0, .long 0, .int 0, .int 0, .int 0, .int 0, .int 0]))] H := by rw [ef_37]; exact hP
  have hD : va_D A [(h0, .inr (5, [.ref m0, .ref q_1, .int 0, .int 0])), (q_1, .inl (cA_2, 8, .inr (.inr (.inr (.inr f_37))))), (q_34, .inr (4, [.int 0, .int 0, .long 0, .int 0, .int 0, .int 0, .int 0, .int 0]))] := by rw [ef_37]; exact hD
  have hP := hP.sub (ws' := [(h0, .inr (5, [.ref m0, .ref q_1, .int 0, .int 0])), (q_1, .inl (cA_2, 8, .inr (.inr (.inr (.inr f_37)))))]) [0, 1] rfl
  have hD := hD.sub (ws' := [(h0, .inr (5, [.ref m0, .ref q_1, .int 0, .int 0])), (q_1, .inl (cA_2, 8, .inr (.inr (.inr (.inr f_37)))))]) [0, 1] (by decide) rfl
  refine lv_iinc (v := 7) (lv' := [(2, .int 7), (0, .ref h0), (1, .ref m0)]) hx hb dX3_init_39 hl (k := 0) rfl (by decide) (by decide) rfl (fun ls hl => ?_)
  refine lv_goto (tgt := 20) hx hb dX3_init_42 (by decide) ?_
  refine lv_iload_n hx hb dX3_init_20 rfl (lv_at hl 0 rfl) ?_
  refine lv_bipush (v := 8) hx hb dX3_init_21 (by decide) ?_
  refine lv_icmp_ge (tgt := 45) hx hb dX3_init_23 (by decide) (fun c_38 => absurd c_38 (by decide)) (fun c_38 => ?_)
  refine lv_aload_n hx hb dX3_init_26 rfl (lv_at hl 1 rfl) ?_
  refine va_get (D := (dC, dI)) (ci := 5) (v := .ref q_1) (C := RX3) (T := TX3) (N := 4) hx hb hts iRX3 hown hK hP 0 rfl rfl 1 (by decide) (hts (.fieldLink RX3 17 "RecordBench$RecordReader" "pieces" "[LRecordBench$Piece;") (by decide +kernel)) (fun _ h9 => h9) rfl dX3_init_27 ?_
  refine lv_iload_n hx hb dX3_init_30 rfl (lv_at hl 0 rfl) ?_
  refine va_new (ci := 4) (fs := [.int 0, .int 0, .long 0, .int 0, .int 0, .int 0, .int 0, .int 0]) (C := RX2) (T := TX2) (N := 8) hx hb hts iRX2 tyX2 tyX2_ok hown (hts (.classLink RX3 15 RX2) (by decide +kernel)) (hts (.instantiable RX2 8) (by decide +kernel)) (hts (.initialized RX2) (by decide +kernel)) hK hP hD hS hA rfl fsX2_ok (Nat.le_of_ble_eq_true rfl) (Nat.le_of_ble_eq_true rfl) dX3_init_31 (fun q_39 H hP hD hS => ?_)
  have hP : va_P (dC, dI) vwCl [(h0, .inr (5, [.ref m0, .ref q_1, .int 0, .int 0])), (q_1, .inl (cA_2, 8, .inr (.inr (.inr (.inr f_37))))), (q_39, .inr (4, [.int 0, .int 0, .long 0, .int 0, .int 0, .int 0, .int 0, .int 0]))] H := hP
  have hD : va_D A [(h0, .inr (5, [.ref m0, .ref q_1, .int 0, .int 0])), (q_1, .inl (cA_2, 8, .inr (.inr (.inr (.inr f_37))))), (q_39, .inr (4, [.int 0, .int 0, .long 0, .int 0, .int 0, .int 0, .int 0, .int 0]))] := hD
  refine W.widen (k := 9) (n := 72) (by omega) (by omega) ?_
  refine lv_dup hx hb dX3_init_34 rfl ?_
  have hFc := va_free (wc := [(q_39, .inr (4, [.int 0, .int 0, .long 0, .int 0, .int 0, .int 0, .int 0, .int 0]))]) hD hS hA [2] rfl
  refine va_callv (va_runIN (As := []) (rest := [.ref q_39, .int 7, .ref q_1]) ⟨hx, hb, hml, hown, hts⟩ (c_X2_init l dC dI q_39 H.size) ⟨va_cnB 0 hts gp_X3_init_X2_init_21 rfl rfl rfl hN.1 (hts (.initialized RX2) (by decide +kernel)) (by decide +kernel) ⟨Nat.le_of_ble_eq_true rfl, Nat.le_of_ble_eq_true rfl⟩, rfl, (hts (.instanceMethod yX2_init) (by decide +kernel))⟩ ⟨Pr.blind _, fun U hU hW => ⟨rfl, Pr.at (hP.sub (ws' := [(q_39, .inr (4, [.int 0, .int 0, .long 0, .int 0, .int 0, .int 0, .int 0, .int 0]))]) [2] rfl) (hK.sub (tys' := []) [] rfl) (hD.sub (ws' := [(q_39, .inr (4, [.int 0, .int 0, .long 0, .int 0, .int 0, .int 0, .int 0, .int 0]))]) [2] (by decide) rfl) hN hZ hS hFc hU hW⟩⟩ rfl rfl hl.1 rfl (lv_room (Nat.le_of_ble_eq_true rfl)) dX3_init_35 ⟨Nat.le_of_ble_eq_true rfl, Nat.le_of_ble_eq_true rfl⟩) hS (fun q _ h => hFc q h) hFc (fun u t H1 locs ht hvm hw_41 hB hz1 hk1 hS => ?_)
  obtain ⟨hP, hD, hK⟩ := Bq.join (wr := [(h0, .inr (5, [.ref m0, .ref q_1, .int 0, .int 0])), (q_1, .inl (cA_2, 8, .inr (.inr (.inr (.inr f_37)))))]) hB ht hvm hP hD [2] [0, 1] rfl rfl (by decide) (by decide) hk1 hFc hK
  generalize H1 = H at hP hS ⊢
  have hP : va_P (dC, dI) vwCl [(h0, .inr (5, [.ref m0, .ref q_1, .int 0, .int 0])), (q_1, .inl (cA_2, 8, .inr (.inr (.inr (.inr f_37))))), (q_39, .inr (4, [.int 0, .int 0, .long 0, .int 0, .int 0, .int 0, .int 0, .int 0]))] H := hP
  have hD : va_D A [(h0, .inr (5, [.ref m0, .ref q_1, .int 0, .int 0])), (q_1, .inl (cA_2, 8, .inr (.inr (.inr (.inr f_37))))), (q_39, .inr (4, [.int 0, .int 0, .long 0, .int 0, .int 0, .int 0, .int 0, .int 0]))] := hD
  have hK : va_K (dC, dI) vwCl [(cA_2, .object RX2)] s := hK
  refine va_astq hx hb hK hP hD hS 1 0 2 4 rfl rfl rfl rfl (by unfold vp_in; decide) dX3_init_38 (fun H locs hP hD hS => ?_)
  obtain ⟨f_42, ef_42⟩ : ∃ y : Nat → Option Nat, y = va_up f_37 7 (some q_39) := ⟨_, rfl⟩
  have hP : va_P (dC, dI) vwCl [(h0, .inr (5, [.ref m0, .ref q_1, .int 0, .int 0])), (q_1, .inl (cA_2, 8, .inr (.inr (.inr (.inr f_42))))), (q_39, .inr (4, [.int 0, .int 0, .long 0, .int 0, .int 0, .int 0, .int 0, .int 0]))] H := by rw [ef_42]; exact hP
  have hD : va_D A [(h0, .inr (5, [.ref m0, .ref q_1, .int 0, .int 0])), (q_1, .inl (cA_2, 8, .inr (.inr (.inr (.inr f_42))))), (q_39, .inr (4, [.int 0, .int 0, .long 0, .int 0, .int 0, .int 0, .int 0, .int 0]))] := by rw [ef_42]; exact hD
  have hP := hP.sub (ws' := [(h0, .inr (5, [.ref m0, .ref q_1, .int 0, .int 0])), (q_1, .inl (cA_2, 8, .inr (.inr (.inr (.inr f_42)))))]) [0, 1] rfl
  have hD := hD.sub (ws' := [(h0, .inr (5, [.ref m0, .ref q_1, .int 0, .int 0])), (q_1, .inl (cA_2, 8, .inr (.inr (.inr (.inr f_42)))))]) [0, 1] (by decide) rfl
  refine lv_iinc (v := 8) (lv' := [(2, .int 8), (0, .ref h0), (1, .ref m0)]) hx hb dX3_init_39 hl (k := 0) rfl (by decide) (by decide) rfl (fun ls hl => ?_)
  refine lv_goto (tgt := 20) hx hb dX3_init_42 (by decide) ?_
  refine lv_iload_n hx hb dX3_init_20 rfl (lv_at hl 0 rfl) ?_
  refine lv_bipush (v := 8) hx hb dX3_init_21 (by decide) ?_
  refine lv_icmp_ge (tgt := 45) hx hb dX3_init_23 (by decide) (fun c_43 => ?_) (fun c_43 => absurd (by decide) c_43)
  refine lv_aload_n hx hb dX3_init_45 rfl (lv_at hl 1 rfl) ?_
  refine lv_iconst (v := 0) hx hb dX3_init_46 (by decide) ?_
  refine va_put (D := (dC, dI)) (ci := 5) (v := .int 0) (ty := .int) (C := RX3) (T := TX3) (N := 4) hx hb hts iRX3 tyX3 tyX3_ok nmX3 hown hK hP hD hS 0 rfl rfl 2 (by decide) (hts (.fieldLink RX3 22 "RecordBench$RecordReader" "fault" "I") (by decide +kernel)) (fun _ h9 => h9) rfl (by decide +kernel) rfl rfl (Nat.le_of_ble_eq_true rfl) dX3_init_47 (fun H locs hP hD hS => ?_)
  have hP : va_P (dC, dI) vwCl [(h0, .inr (5, [.ref m0, .ref q_1, .int 0, .int 0])), (q_1, .inl (cA_2, 8, .inr (.inr (.inr (.inr f_42)))))] H := hP
  have hD : va_D A [(h0, .inr (5, [.ref m0, .ref q_1, .int 0, .int 0])), (q_1, .inl (cA_2, 8, .inr (.inr (.inr (.inr f_42)))))] := hD
  refine lv_aload_n hx hb dX3_init_50 rfl (lv_at hl 1 rfl) ?_
  refine lv_iconst (v := (-1)) hx hb dX3_init_51 (by decide) ?_
  refine va_put (D := (dC, dI)) (ci := 5) (v := .int ((-1))) (ty := .int) (C := RX3) (T := TX3) (N := 4) hx hb hts iRX3 tyX3 tyX3_ok nmX3 hown hK hP hD hS 0 rfl rfl 3 (by decide) (hts (.fieldLink RX3 26 "RecordBench$RecordReader" "place" "I") (by decide +kernel)) (fun _ h9 => h9) rfl (by decide +kernel) rfl rfl (Nat.le_of_ble_eq_true rfl) dX3_init_52 (fun H locs hP hD hS => ?_)
  have hP : va_P (dC, dI) vwCl [(h0, .inr (5, [.ref m0, .ref q_1, .int 0, .int ((-1))])), (q_1, .inl (cA_2, 8, .inr (.inr (.inr (.inr f_42)))))] H := hP
  have hD : va_D A [(h0, .inr (5, [.ref m0, .ref q_1, .int 0, .int ((-1))])), (q_1, .inl (cA_2, 8, .inr (.inr (.inr (.inr f_42)))))] := hD
  have hP9 := hP.sub (ws' := []) [] rfl
  have hD9 := hD.sub (ws' := []) [] (by decide) rfl
  have hK9 := hK.sub (tys' := []) [] rfl
  exact W.vret hx hb hr (fun t ht hW => ⟨⟨(), rfl, trivial, by rw [ht]; exact hP9, va_K.moved hW.alike hK9, hD9⟩, hS.F ht⟩) hS.2.2 dX3_init_55
def wp_X4_init : List Cond := .code yX4_init cX4_init 3 none :: ([.methodLink RX4 3 objectInit, .instanceMethod objectInit, .code objectInit ⟨#[0xb1]⟩ 1 none, .fieldLink RX4 9 "RecordBench$RecordWriter" "makes" "[LRecordBench$Make;", .classLink RX4 15 RX2, .fieldLink RX4 17 "RecordBench$RecordWriter" "pieces" "[LRecordBench$Piece;", .instantiable RX2 8, .initialized RX2, .instanceMethod yX2_init, .classLink RX4 22 RX5, .instantiable RX5 2, .initialized RX5, .instanceMethod yX5_init, .methodLink RX4 24 yX5_init, .fieldLink RX4 27 "RecordBench$RecordWriter" "nothing" "LRecordBench$Row;", .code yX2_init cX2_init 1 none, .methodLink RX2 3 objectInit, .fieldLink RX2 9 "RecordBench$Piece" "number" "I", .fieldLink RX2 15 "RecordBench$Piece" "withLength" "Z", .fieldLink RX2 19 "RecordBench$Piece" "raw" "J", .fieldLink RX2 23 "RecordBench$Piece" "body" "I", .fieldLink RX2 26 "RecordBench$Piece" "end" "I", .fieldLink RX2 29 "RecordBench$Piece" "fault" "I", .fieldLink RX2 32 "RecordBench$Piece" "pos" "I", .fieldLink RX2 35 "RecordBench$Piece" "broken" "Z", .code yX5_init cX5_init 2 none, .methodLink RX5 3 objectInit, .methodLink RX5 9 Lib.Math.max.name, .static Lib.Math.max.name, .initialized "java/lang/Math", .code Lib.Math.max.name Lib.Math.max.code 2 (some .int), .arrayClass .int, .fieldLink RX5 15 "RecordBench$Row" "bytes" "[I", .fieldLink RX5 21 "RecordBench$Row" "size" "I"] ++ wsX40 ++ wsX20 ++ wsX50)
set_option maxRecDepth 20000 in
theorem gp_X4_init_X2_init_21 : GoodIn wp_X4_init (wp_X2_init) := goodIn_p _ [16, 3] rfl (by decide +kernel)
set_option maxRecDepth 20000 in
theorem gp_X4_init_X5_init_24 : GoodIn wp_X4_init (wp_X5_init) := goodIn_p _ [26, 3, 31] rfl (by decide +kernel)
set_option maxHeartbeats 4000000 in
set_option maxRecDepth 100000 in
theorem c_X4_init (l : Launch) (dC : Nat → ClassId) (dI : Nat → Nat → Nat) (h0 : Nat) (m0 : Nat) (sz : Nat) : Met l yX4_init wp_X4_init ({ frames := 2, cells := 11, slots := 74, locals := 43 }) (va_Pc [.ref h0, .ref m0] (Pr (dC, dI) [] [(h0, .inr (6, [.null, .null, .null]))] sz)) (va_Qv (fun _ : Unit => True) (Bq (dC, dI) (fun _ : Unit => []) (fun _ : Unit => []) (va_A [(h0, .inr (6, [.null, .null, .null]))] sz)) (va_A [(h0, .inr (6, [.null, .null, .null]))] sz)) 11 74 (va_A [(h0, .inr (6, [.null, .null, .null]))] sz) := by
  refine Met.ofW (cc := cX4_init) (maxL := 3) (ret := none) (by decide) rfl ?_
  intro p e s m args below meth c s₁ B hml hv
  obtain ⟨rfl, hsz, hP, hK, hD0, hN, hZ⟩ := hv
  have hx := B.exec
  have hb := B.bytes
  have hr := B.returns
  have hts := atoms_spec (ws := wp_X4_init) B.pre
  have hown : s.vm.findClass RX4 = some m.cls := findClass_of_methodNamed B.named
  have hlocks := B.notSynchronized
  have hin : meth.name = "<init>" := (name_of_methodNamed B.named B.method).1
  have iRX4 : ∀ w ∈ u_ws RX4 TX4 3, w ∈ wp_X4_init := by decide +kernel
  have iRX2 : ∀ w ∈ u_ws RX2 TX2 8, w ∈ wp_X4_init := by decide +kernel
  have iRX5 : ∀ w ∈ u_ws RX5 TX5 2, w ∈ wp_X4_init := by decide +kernel
  subst hsz
  have hD := hD0.self (sz := s.heap.size)
  generalize hAe : va_A [(h0, .inr (6, [.null, .null, .null]))] s.heap.size = A at hD hZ ⊢
  have hA : ∀ q : Nat, s.heap.size ≤ q → A q := fun q h => by rw [← hAe]; exact Or.inr h
  have hS : va_S A s.heap s.heap [] := va_S.rf
  have hP : va_P (dC, dI) vwCl [(h0, .inr (6, [.null, .null, .null]))] s.heap := hP
  have hl := lv_entry ([.ref h0, .ref m0]) (n := 3) (Nat.le_of_ble_eq_true rfl)
  rw [lg_entry_eq]
  generalize (lg_sl ([.ref h0, .ref m0]) ++ List.replicate (3 - (lg_sl ([.ref h0, .ref m0])).length) Slot.unset).toArray = ls at hl ⊢
  have hl : lv_has ls 3 [(0, .ref h0), (1, .ref m0)] := hl
  refine lv_aload_n hx hb dX4_init_0 rfl (lv_at hl 0 rfl) ?_
  refine W.objInit hx hb hown (hts (.methodLink RX4 3 objectInit) (by decide +kernel)) (hts (.instanceMethod objectInit) (by decide +kernel)) (hts (.code objectInit ⟨#[0xb1]⟩ 1 none) (by decide +kernel)) rfl (by rw [hml]; exact hl.1) rfl dX4_init_1 (Nat.le_of_ble_eq_true rfl) (Nat.le_of_ble_eq_true rfl) ?_
  refine W.eq (g2 := F0 m 4 ls []) rfl ?_
  refine lv_aload_n hx hb dX4_init_4 rfl (lv_at hl 0 rfl) ?_
  refine lv_aload_n hx hb dX4_init_5 rfl (lv_at hl 1 rfl) ?_
  refine va_putF (D := (dC, dI)) (ci := 6) (v := .ref m0) (ty := (.array (.object "RecordBench$Make"))) (C := RX4) (T := TX4) (N := 3) hx hb hts iRX4 tyX4 tyX4_ok nmX4 hown hK hP hD hS 0 rfl rfl 0 (by decide) (hts (.fieldLink RX4 9 "RecordBench$RecordWriter" "makes" "[LRecordBench$Make;") (by decide +kernel)) (fun _ h9 => h9) rfl hin rfl (by decide +kernel) rfl rfl (Nat.le_of_ble_eq_true rfl) dX4_init_6 (fun H locs hP hD hS => ?_)
  have hP : va_P (dC, dI) vwCl [(h0, .inr (6, [.ref m0, .null, .null]))] H := hP
  have hD : va_D A [(h0, .inr (6, [.ref m0, .null, .null]))] := hD
  refine lv_aload_n hx hb dX4_init_9 rfl (lv_at hl 0 rfl) ?_
  refine lv_bipush (v := 8) hx hb dX4_init_10 (by decide) ?_
  refine va_newq (C := RX2) hx hb hown (hts (.classLink RX4 15 RX2) (by decide +kernel)) hN.2.2.2.2.2.1 hK hP hD hS hA (n := 8) (N' := 8) (by decide) (by decide) (by decide) (Nat.le_of_ble_eq_true rfl) (Nat.le_of_ble_eq_true rfl) dX4_init_12 (fun q_1 cA_2 H hK hP hD hS => ?_)
  have hP : va_P (dC, dI) vwCl [(h0, .inr (6, [.ref m0, .null, .null])), (q_1, .inl (cA_2, 8, .inr (.inr (.inr (.inr (fun _ => none))))))] H := hP
  have hD : va_D A [(h0, .inr (6, [.ref m0, .null, .null])), (q_1, .inl (cA_2, 8, .inr (.inr (.inr (.inr (fun _ => none))))))] := hD
  have hK : va_K (dC, dI) vwCl [(cA_2, .object RX2)] s := hK
  refine W.widen (k := 1) (n := 8) (by omega) (by omega) ?_
  refine va_putF (D := (dC, dI)) (ci := 6) (v := .ref q_1) (ty := (.array (.object "RecordBench$Piece"))) (C := RX4) (T := TX4) (N := 3) hx hb hts iRX4 tyX4 tyX4_ok nmX4 hown hK hP hD hS 0 rfl rfl 1 (by decide) (hts (.fieldLink RX4 17 "RecordBench$RecordWriter" "pieces" "[LRecordBench$Piece;") (by decide +kernel)) (fun _ h9 => h9) rfl hin rfl (by decide +kernel) rfl rfl (Nat.le_of_ble_eq_true rfl) dX4_init_15 (fun H locs hP hD hS => ?_)
  have hP : va_P (dC, dI) vwCl [(h0, .inr (6, [.ref m0, .ref q_1, .null])), (q_1, .inl (cA_2, 8, .inr (.inr (.inr (.inr (fun _ => none))))))] H := hP
  have hD : va_D A [(h0, .inr (6, [.ref m0, .ref q_1, .null])), (q_1, .inl (cA_2, 8, .inr (.inr (.inr (.inr (fun _ => none))))))] := hD
  refine lv_iconst (v := 0) hx hb dX4_init_18 (by decide) ?_
  refine lv_istore_n (lv' := [(2, .int 0), (0, .ref h0), (1, .ref m0)]) hx hb dX4_init_19 rfl hl (by decide) rfl (fun ls hl => ?_)
  refine lv_iload_n hx hb dX4_init_20 rfl (lv_at hl 0 rfl) ?_
  refine lv_bipush (v := 8) hx hb dX4_init_21 (by decide) ?_
  refine lv_icmp_ge (tgt := 45) hx hb dX4_init_23 (by decide) (fun c_3 => absurd c_3 (by decide)) (fun c_3 => ?_)
  refine lv_aload_n hx hb dX4_init_26 rfl (lv_at hl 1 rfl) ?_
  refine va_get (D := (dC, dI)) (ci := 6) (v := .ref q_1) (C := RX4) (T := TX4) (N := 3) hx hb hts iRX4 hown hK hP 0 rfl rfl 1 (by decide) (hts (.fieldLink RX4 17 "RecordBench$RecordWriter" "pieces" "[LRecordBench$Piece;") (by decide +kernel)) (fun _ h9 => h9) rfl dX4_init_27 ?_
  refine lv_iload_n hx hb dX4_init_30 rfl (lv_at hl 0 rfl) ?_
  refine va_new (ci := 4) (fs := [.int 0, .int 0, .long 0, .int 0, .int 0, .int 0, .int 0, .int 0]) (C := RX2) (T := TX2) (N := 8) hx hb hts iRX2 tyX2 tyX2_ok hown (hts (.classLink RX4 15 RX2) (by decide +kernel)) (hts (.instantiable RX2 8) (by decide +kernel)) (hts (.initialized RX2) (by decide +kernel)) hK hP hD hS hA rfl fsX2_ok (Nat.le_of_ble_eq_true rfl) (Nat.le_of_ble_eq_true rfl) dX4_init_31 (fun q_4 H hP hD hS => ?_)
  have hP : va_P (dC, dI) vwCl [(h0, .inr (6, [.ref m0, .ref q_1, .null])), (q_1, .inl (cA_2, 8, .inr (.inr (.inr (.inr (fun _ => none)))))), (q_4, .inr (4, [.int 0, .int 0, .long 0, .int 0, .int 0, .int 0, .int 0, .int 0]))] H := hP
  have hD : va_D A [(h0, .inr (6, [.ref m0, .ref q_1, .null])), (q_1, .inl (cA_2, 8, .inr (.inr (.inr (.inr (fun _ => none)))))), (q_4, .inr (4, [.int 0, .int 0, .long 0, .int 0, .int 0, .int 0, .int 0, .int 0]))] := hD
  refine W.widen (k := 2) (n := 16) (by omega) (by omega) ?_
  refine lv_dup hx hb dX4_init_34 rfl ?_
  have hFc := va_free (wc := [(q_4, .inr (4, [.int 0, .int 0, .long 0, .int 0, .int 0, .int 0, .int 0, .int 0]))]) hD hS hA [2] rfl
  refine va_callv (va_runIN (As := []) (rest := [.ref q_4, .int 0, .ref q_1]) ⟨hx, hb, hml, hown, hts⟩ (c_X2_init l dC dI q_4 H.size) ⟨va_cnB 0 hts gp_X4_init_X2_init_21 rfl rfl rfl hN.2.1 (hts (.initialized RX2) (by decide +kernel)) (by decide +kernel) ⟨Nat.le_of_ble_eq_true rfl, Nat.le_of_ble_eq_true rfl⟩, rfl, (hts (.instanceMethod yX2_init) (by decide +kernel))⟩ ⟨Pr.blind _, fun U hU hW => ⟨rfl, Pr.at (hP.sub (ws' := [(q_4, .inr (4, [.int 0, .int 0, .long 0, .int 0, .int 0, .int 0, .int 0, .int 0]))]) [2] rfl) (hK.sub (tys' := []) [] rfl) (hD.sub (ws' := [(q_4, .inr (4, [.int 0, .int 0, .long 0, .int 0, .int 0, .int 0, .int 0, .int 0]))]) [2] (by decide) rfl) hN hZ hS hFc hU hW⟩⟩ rfl rfl hl.1 rfl (lv_room (Nat.le_of_ble_eq_true rfl)) dX4_init_35 ⟨Nat.le_of_ble_eq_true rfl, Nat.le_of_ble_eq_true rfl⟩) hS (fun q _ h => hFc q h) hFc (fun u t H1 locs ht hvm hw_6 hB hz1 hk1 hS => ?_)
  obtain ⟨hP, hD, hK⟩ := Bq.join (wr := [(h0, .inr (6, [.ref m0, .ref q_1, .null])), (q_1, .inl (cA_2, 8, .inr (.inr (.inr (.inr (fun _ => none))))))]) hB ht hvm hP hD [2] [0, 1] rfl rfl (by decide) (by decide) hk1 hFc hK
  generalize H1 = H at hP hS ⊢
  have hP : va_P (dC, dI) vwCl [(h0, .inr (6, [.ref m0, .ref q_1, .null])), (q_1, .inl (cA_2, 8, .inr (.inr (.inr (.inr (fun _ => none)))))), (q_4, .inr (4, [.int 0, .int 0, .long 0, .int 0, .int 0, .int 0, .int 0, .int 0]))] H := hP
  have hD : va_D A [(h0, .inr (6, [.ref m0, .ref q_1, .null])), (q_1, .inl (cA_2, 8, .inr (.inr (.inr (.inr (fun _ => none)))))), (q_4, .inr (4, [.int 0, .int 0, .long 0, .int 0, .int 0, .int 0, .int 0, .int 0]))] := hD
  have hK : va_K (dC, dI) vwCl [(cA_2, .object RX2)] s := hK
  refine va_astq hx hb hK hP hD hS 1 0 2 4 rfl rfl rfl rfl (by unfold vp_in; decide) dX4_init_38 (fun H locs hP hD hS => ?_)
  obtain ⟨f_7, ef_7⟩ : ∃ y : Nat → Option Nat, y = va_up (fun _ => none) 0 (some q_4) := ⟨_, rfl⟩
  have hP : va_P (dC, dI) vwCl [(h0, .inr (6, [.ref m0, .ref q_1, .null])), (q_1, .inl (cA_2, 8, .inr (.inr (.inr (.inr f_7))))), (q_4, .inr (4, [.int 0, .int 0, .long 0, .int 0, .int 0, .int 0, .int 0, .int 0]))] H := by rw [ef_7]; exact hP
  have hD : va_D A [(h0, .inr (6, [.ref m0, .ref q_1, .null])), (q_1, .inl (cA_2, 8, .inr (.inr (.inr (.inr f_7))))), (q_4, .inr (4, [.int 0, .int 0, .long 0, .int 0, .int 0, .int 0, .int 0, .int 0]))] := by rw [ef_7]; exact hD
  have hP := hP.sub (ws' := [(h0, .inr (6, [.ref m0, .ref q_1, .null])), (q_1, .inl (cA_2, 8, .inr (.inr (.inr (.inr f_7)))))]) [0, 1] rfl
  have hD := hD.sub (ws' := [(h0, .inr (6, [.ref m0, .ref q_1, .null])), (q_1, .inl (cA_2, 8, .inr (.inr (.inr (.inr f_7)))))]) [0, 1] (by decide) rfl
  refine lv_iinc (v := 1) (lv' := [(2, .int 1), (0, .ref h0), (1, .ref m0)]) hx hb dX4_init_39 hl (k := 0) rfl (by decide) (by decide) rfl (fun ls hl => ?_)
  refine lv_goto (tgt := 20) hx hb dX4_init_42 (by decide) ?_
  refine lv_iload_n hx hb dX4_init_20 rfl (lv_at hl 0 rfl) ?_
  refine lv_bipush (v := 8) hx hb dX4_init_21 (by decide) ?_
  refine lv_icmp_ge (tgt := 45) hx hb dX4_init_23 (by decide) (fun c_8 => absurd c_8 (by decide)) (fun c_8 => ?_)
  refine lv_aload_n hx hb dX4_init_26 rfl (lv_at hl 1 rfl) ?_
  refine va_get (D := (dC, dI)) (ci := 6) (v := .ref q_1) (C := RX4) (T := TX4) (N := 3) hx hb hts iRX4 hown hK hP 0 rfl rfl 1 (by decide) (hts (.fieldLink RX4 17 "RecordBench$RecordWriter" "pieces" "[LRecordBench$Piece;") (by decide +kernel)) (fun _ h9 => h9) rfl dX4_init_27 ?_
  refine lv_iload_n hx hb dX4_init_30 rfl (lv_at hl 0 rfl) ?_
  refine va_new (ci := 4) (fs := [.int 0, .int 0, .long 0, .int 0, .int 0, .int 0, .int 0, .int 0]) (C := RX2) (T := TX2) (N := 8) hx hb hts iRX2 tyX2 tyX2_ok hown (hts (.classLink RX4 15 RX2) (by decide +kernel)) (hts (.instantiable RX2 8) (by decide +kernel)) (hts (.initialized RX2) (by decide +kernel)) hK hP hD hS hA rfl fsX2_ok (Nat.le_of_ble_eq_true rfl) (Nat.le_of_ble_eq_true rfl) dX4_init_31 (fun q_9 H hP hD hS => ?_)
  have hP : va_P (dC, dI) vwCl [(h0, .inr (6, [.ref m0, .ref q_1, .null])), (q_1, .inl (cA_2, 8, .inr (.inr (.inr (.inr f_7))))), (q_9, .inr (4, [.int 0, .int 0, .long 0, .int 0, .int 0, .int 0, .int 0, .int 0]))] H := hP
  have hD : va_D A [(h0, .inr (6, [.ref m0, .ref q_1, .null])), (q_1, .inl (cA_2, 8, .inr (.inr (.inr (.inr f_7))))), (q_9, .inr (4, [.int 0, .int 0, .long 0, .int 0, .int 0, .int 0, .int 0, .int 0]))] := hD
  refine W.widen (k := 3) (n := 24) (by omega) (by omega) ?_
  refine lv_dup hx hb dX4_init_34 rfl ?_
  have hFc := va_free (wc := [(q_9, .inr (4, [.int 0, .int 0, .long 0, .int 0, .int 0, .int 0, .int 0, .int 0]))]) hD hS hA [2] rfl
  refine va_callv (va_runIN (As := []) (rest := [.ref q_9, .int 1, .ref q_1]) ⟨hx, hb, hml, hown, hts⟩ (c_X2_init l dC dI q_9 H.size) ⟨va_cnB 0 hts gp_X4_init_X2_init_21 rfl rfl rfl hN.2.1 (hts (.initialized RX2) (by decide +kernel)) (by decide +kernel) ⟨Nat.le_of_ble_eq_true rfl, Nat.le_of_ble_eq_true rfl⟩, rfl, (hts (.instanceMethod yX2_init) (by decide +kernel))⟩ ⟨Pr.blind _, fun U hU hW => ⟨rfl, Pr.at (hP.sub (ws' := [(q_9, .inr (4, [.int 0, .int 0, .long 0, .int 0, .int 0, .int 0, .int 0, .int 0]))]) [2] rfl) (hK.sub (tys' := []) [] rfl) (hD.sub (ws' := [(q_9, .inr (4, [.int 0, .int 0, .long 0, .int 0, .int 0, .int 0, .int 0, .int 0]))]) [2] (by decide) rfl) hN hZ hS hFc hU hW⟩⟩ rfl rfl hl.1 rfl (lv_room (Nat.le_of_ble_eq_true rfl)) dX4_init_35 ⟨Nat.le_of_ble_eq_true rfl, Nat.le_of_ble_eq_true rfl⟩) hS (fun q _ h => hFc q h) hFc (fun u t H1 locs ht hvm hw_11 hB hz1 hk1 hS => ?_)
  obtain ⟨hP, hD, hK⟩ := Bq.join (wr := [(h0, .inr (6, [.ref m0, .ref q_1, .null])), (q_1, .inl (cA_2, 8, .inr (.inr (.inr (.inr f_7)))))]) hB ht hvm hP hD [2] [0, 1] rfl rfl (by decide) (by decide) hk1 hFc hK
  generalize H1 = H at hP hS ⊢
  have hP : va_P (dC, dI) vwCl [(h0, .inr (6, [.ref m0, .ref q_1, .null])), (q_1, .inl (cA_2, 8, .inr (.inr (.inr (.inr f_7))))), (q_9, .inr (4, [.int 0, .int 0, .long 0, .int 0, .int 0, .int 0, .int 0, .int 0]))] H := hP
  have hD : va_D A [(h0, .inr (6, [.ref m0, .ref q_1, .null])), (q_1, .inl (cA_2, 8, .inr (.inr (.inr (.inr f_7))))), (q_9, .inr (4, [.int 0, .int 0, .long 0, .int 0, .int 0, .int 0, .int 0, .int 0]))] := hD
  have hK : va_K (dC, dI) vwCl [(cA_2, .object RX2)] s := hK
  refine va_astq hx hb hK hP hD hS 1 0 2 4 rfl rfl rfl rfl (by unfold vp_in; decide) dX4_init_38 (fun H locs hP hD hS => ?_)
  obtain ⟨f_12, ef_12⟩ : ∃ y : Nat → Option Nat, y = va_up f_7 1 (some q_9) := ⟨_, rfl⟩
  have hP : va_P (dC, dI) vwCl [(h0, .inr (6, [.ref m0, .ref q_1, .null])), (q_1, .inl (cA_2, 8, .inr (.inr (.inr (.inr f_12))))), (q_9, .inr (4, [.int 0, .int 0, .long 0, .int 0, .int 0, .int 0, .int 0, .int 0]))] H := by rw [ef_12]; exact hP
  have hD : va_D A [(h0, .inr (6, [.ref m0, .ref q_1, .null])), (q_1, .inl (cA_2, 8, .inr (.inr (.inr (.inr f_12))))), (q_9, .inr (4, [.int 0, .int 0, .long 0, .int 0, .int 0, .int 0, .int 0, .int 0]))] := by rw [ef_12]; exact hD
  have hP := hP.sub (ws' := [(h0, .inr (6, [.ref m0, .ref q_1, .null])), (q_1, .inl (cA_2, 8, .inr (.inr (.inr (.inr f_12)))))]) [0, 1] rfl
  have hD := hD.sub (ws' := [(h0, .inr (6, [.ref m0, .ref q_1, .null])), (q_1, .inl (cA_2, 8, .inr (.inr (.inr (.inr f_12)))))]) [0, 1] (by decide) rfl
  refine lv_iinc (v := 2) (lv' := [(2, .int 2), (0, .ref h0), (1, .ref m0)]) hx hb dX4_init_39 hl (k := 0) rfl (by decide) (by decide) rfl (fun ls hl => ?_)
  refine lv_goto (tgt := 20) hx hb dX4_init_42 (by decide) ?_
  refine lv_iload_n hx hb dX4_init_20 rfl (lv_at hl 0 rfl) ?_
  refine lv_bipush (v := 8) hx hb dX4_init_21 (by decide) ?_
  refine lv_icmp_ge (tgt := 45) hx hb dX4_init_23 (by decide) (fun c_13 => absurd c_13 (by decide)) (fun c_13 => ?_)
  refine lv_aload_n hx hb dX4_init_26 rfl (lv_at hl 1 rfl) ?_
  refine va_get (D := (dC, dI)) (ci := 6) (v := .ref q_1) (C := RX4) (T := TX4) (N := 3) hx hb hts iRX4 hown hK hP 0 rfl rfl 1 (by decide) (hts (.fieldLink RX4 17 "RecordBench$RecordWriter" "pieces" "[LRecordBench$Piece;") (by decide +kernel)) (fun _ h9 => h9) rfl dX4_init_27 ?_
  refine lv_iload_n hx hb dX4_init_30 rfl (lv_at hl 0 rfl) ?_
  refine va_new (ci := 4) (fs := [.int 0, .int 0, .long 0, .int 0, .int 0, .int 0, .int 0, .int 0]) (C := RX2) (T := TX2) (N := 8) hx hb hts iRX2 tyX2 tyX2_ok hown (hts (.classLink RX4 15 RX2) (by decide +kernel)) (hts (.instantiable RX2 8) (by decide +kernel)) (hts (.initialized RX2) (by decide +kernel)) hK hP hD hS hA rfl fsX2_ok (Nat.le_of_ble_eq_true rfl) (Nat.le_of_ble_eq_true rfl) dX4_init_31 (fun q_14 H hP hD hS => ?_)
  have hP : va_P (dC, dI) vwCl [(h0, .inr (6, [.ref m0, .ref q_1, .null])), (q_1, .inl (cA_2, 8, .inr (.inr (.inr (.inr f_12))))), (q_14, .inr (4, [.int 0, .int 0, .long 0, .int 0, .int 0, .int 0, .int 0, .int 0]))] H := hP
  have hD : va_D A [(h0, .inr (6, [.ref m0, .ref q_1, .null])), (q_1, .inl (cA_2, 8, .inr (.inr (.inr (.inr f_12))))), (q_14, .inr (4, [.int 0, .int 0, .long 0, .int 0, .int 0, .int 0, .int 0, .int 0]))] := hD
  refine W.widen (k := 4) (n := 32) (by omega) (by omega) ?_
  refine lv_dup hx hb dX4_init_34 rfl ?_
  have hFc := va_free (wc := [(q_14, .inr (4, [.int 0, .int 0, .long 0, .int 0, .int 0, .int 0, .int 0, .int 0]))]) hD hS hA [2] rfl
  refine va_callv (va_runIN (As := []) (rest := [.ref q_14, .int 2, .ref q_1]) ⟨hx, hb, hml, hown, hts⟩ (c_X2_init l dC dI q_14 H.size) ⟨va_cnB 0 hts gp_X4_init_X2_init_21 rfl rfl rfl hN.2.1 (hts (.initialized RX2) (by decide +kernel)) (by decide +kernel) ⟨Nat.le_of_ble_eq_true rfl, Nat.le_of_ble_eq_true rfl⟩, rfl, (hts (.instanceMethod yX2_init) (by decide +kernel))⟩ ⟨Pr.blind _, fun U hU hW => ⟨rfl, Pr.at (hP.sub (ws' := [(q_14, .inr (4, [.int 0, .int 0, .long 0, .int 0, .int 0, .int 0, .int 0, .int 0]))]) [2] rfl) (hK.sub (tys' := []) [] rfl) (hD.sub (ws' := [(q_14, .inr (4, [.int 0, .int 0, .long 0, .int 0, .int 0, .int 0, .int 0, .int 0]))]) [2] (by decide) rfl) hN hZ hS hFc hU hW⟩⟩ rfl rfl hl.1 rfl (lv_room (Nat.le_of_ble_eq_true rfl)) dX4_init_35 ⟨Nat.le_of_ble_eq_true rfl, Nat.le_of_ble_eq_true rfl⟩) hS (fun q _ h => hFc q h) hFc (fun u t H1 locs ht hvm hw_16 hB hz1 hk1 hS => ?_)
  obtain ⟨hP, hD, hK⟩ := Bq.join (wr := [(h0, .inr (6, [.ref m0, .ref q_1, .null])), (q_1, .inl (cA_2, 8, .inr (.inr (.inr (.inr f_12)))))]) hB ht hvm hP hD [2] [0, 1] rfl rfl (by decide) (by decide) hk1 hFc hK
  generalize H1 = H at hP hS ⊢
  have hP : va_P (dC, dI) vwCl [(h0, .inr (6, [.ref m0, .ref q_1, .null])), (q_1, .inl (cA_2, 8, .inr (.inr (.inr (.inr f_12))))), (q_14, .inr (4, [.int 0, .int 0, .long 0, .int 0, .int 0, .int 0, .int 0, .int 0]))] H := hP
  have hD : va_D A [(h0, .inr (6, [.ref m0, .ref q_1, .null])), (q_1, .inl (cA_2, 8, .inr (.inr (.inr (.inr f_12))))), (q_14, .inr (4, [.int 0, .int 0, .long 0, .int 0, .int 0, .int 0, .int 0, .int 0]))] := hD
  have hK : va_K (dC, dI) vwCl [(cA_2, .object RX2)] s := hK
  refine va_astq hx hb hK hP hD hS 1 0 2 4 rfl rfl rfl rfl (by unfold vp_in; decide) dX4_init_38 (fun H locs hP hD hS => ?_)
  obtain ⟨f_17, ef_17⟩ : ∃ y : Nat → Option Nat, y = va_up f_12 2 (some q_14) := ⟨_, rfl⟩
  have hP : va_P (dC, dI) vwCl [(h0, .inr (6, [.ref m0, .ref q_1, .null])), (q_1, .inl (cA_2, 8, .inr (.inr (.inr (.inr f_17))))), (q_14, .inr (4, [.int 0, .int 0, .long 0, .int 0, .int 0, .int 0, .int 0, .int 0]))] H := by rw [ef_17]; exact hP
  have hD : va_D A [(h0, .inr (6, [.ref m0, .ref q_1, .null])), (q_1, .inl (cA_2, 8, .inr (.inr (.inr (.inr f_17))))), (q_14, .inr (4, [.int 0, .int 0, .long 0, .int 0, .int 0, .int 0, .int 0, .int 0]))] := by rw [ef_17]; exact hD
  have hP := hP.sub (ws' := [(h0, .inr (6, [.ref m0, .ref q_1, .null])), (q_1, .inl (cA_2, 8, .inr (.inr (.inr (.inr f_17)))))]) [0, 1] rfl
  have hD := hD.sub (ws' := [(h0, .inr (6, [.ref m0, .ref q_1, .null])), (q_1, .inl (cA_2, 8, .inr (.inr (.inr (.inr f_17)))))]) [0, 1] (by decide) rfl
  refine lv_iinc (v := 3) (lv' := [(2, .int 3), (0, .ref h0), (1, .ref m0)]) hx hb dX4_init_39 hl (k := 0) rfl (by decide) (by decide) rfl (fun ls hl => ?_)
  refine lv_goto (tgt := 20) hx hb dX4_init_42 (by decide) ?_
  refine lv_iload_n hx hb dX4_init_20 rfl (lv_at hl 0 rfl) ?_
  refine lv_bipush (v := 8) hx hb dX4_init_21 (by decide) ?_
  refine lv_icmp_ge (tgt := 45) hx hb dX4_init_23 (by decide) (fun c_18 => absurd c_18 (by decide)) (fun c_18 => ?_)
  refine lv_aload_n hx hb dX4_init_26 rfl (lv_at hl 1 rfl) ?_
  refine va_get (D := (dC, dI)) (ci := 6) (v := .ref q_1) (C := RX4) (T := TX4) (N := 3) hx hb hts iRX4 hown hK hP 0 rfl rfl 1 (by decide) (hts (.fieldLink RX4 17 "RecordBench$RecordWriter" "pieces" "[LRecordBench$Piece;") (by decide +kernel)) (fun _ h9 => h9) rfl dX4_init_27 ?_
  refine lv_iload_n hx hb dX4_init_30 rfl (lv_at hl 0 rfl) ?_
  refine va_new (ci := 4) (fs := [.int 0, .int 0, .long 0, .int 0, .int 0, .int 0, .int 0, .int 0]) (C := RX2) (T := TX2) (N := 8) hx hb hts iRX2 tyX2 tyX2_ok hown (hts (.classLink RX4 15 RX2) (by decide +kernel)) (hts (.instantiable RX2 8) (by decide +kernel)) (hts (.initialized RX2) (by decide +kernel)) hK hP hD hS hA rfl fsX2_ok (Nat.le_of_ble_eq_true rfl) (Nat.le_of_ble_eq_true rfl) dX4_init_31 (fun q_19 H hP hD hS => ?_)
  have hP : va_P (dC, dI) vwCl [(h0, .inr (6, [.ref m0, .ref q_1, .null])), (q_1, .inl (cA_2, 8, .inr (.inr (.inr (.inr f_17))))), (q_19, .inr (4, [.int 0, .int 0, .long 0, .int 0, .int 0, .int 0, .int 0, .int 0]))] H := hP
  have hD : va_D A [(h0, .inr (6, [.ref m0, .ref q_1, .null])), (q_1, .inl (cA_2, 8, .inr (.inr (.inr (.inr f_17))))), (q_19, .inr (4, [.int 0, .int 0, .long 0, .int 0, .int 0, .int 0, .int 0, .int 0]))] := hD
  refine W.widen (k := 5) (n := 40) (by omega) (by omega) ?_
  refine lv_dup hx hb dX4_init_34 rfl ?_
  have hFc := va_free (wc := [(q_19, .inr (4, [.int 0, .int 0, .long 0, .int 0, .int 0, .int 0, .int 0, .int 0]))]) hD hS hA [2] rfl
  refine va_callv (va_runIN (As := []) (rest := [.ref q_19, .int 3, .ref q_1]) ⟨hx, hb, hml, hown, hts⟩ (c_X2_init l dC dI q_19 H.size) ⟨va_cnB 0 hts gp_X4_init_X2_init_21 rfl rfl rfl hN.2.1 (hts (.initialized RX2) (by decide +kernel)) (by decide +kernel) ⟨Nat.le_of_ble_eq_true rfl, Nat.le_of_ble_eq_true rfl⟩, rfl, (hts (.instanceMethod yX2_init) (by decide +kernel))⟩ ⟨Pr.blind _, fun U hU hW => ⟨rfl, Pr.at (hP.sub (ws' := [(q_19, .inr (4, [.int 0, .int 0, .long 0, .int 0, .int 0, .int 0, .int 0, .int 0]))]) [2] rfl) (hK.sub (tys' := []) [] rfl) (hD.sub (ws' := [(q_19, .inr (4, [.int 0, .int 0, .long 0, .int 0, .int 0, .int 0, .int 0, .int 0]))]) [2] (by decide) rfl) hN hZ hS hFc hU hW⟩⟩ rfl rfl hl.1 rfl (lv_room (Nat.le_of_ble_eq_true rfl)) dX4_init_35 ⟨Nat.le_of_ble_eq_true rfl, Nat.le_of_ble_eq_true rfl⟩) hS (fun q _ h => hFc q h) hFc (fun u t H1 locs ht hvm hw_21 hB hz1 hk1 hS => ?_)
  obtain ⟨hP, hD, hK⟩ := Bq.join (wr := [(h0, .inr (6, [.ref m0, .ref q_1, .null])), (q_1, .inl (cA_2, 8, .inr (.inr (.inr (.inr f_17)))))]) hB ht hvm hP hD [2] [0, 1] rfl rfl (by decide) (by decide) hk1 hFc hK
  generalize H1 = H at hP hS ⊢
  have hP : va_P (dC, dI) vwCl [(h0, .inr (6, [.ref m0, .ref q_1, .null])), (q_1, .inl (cA_2, 8, .inr (.inr (.inr (.inr f_17))))), (q_19, .inr (4, [.int 0, .int 0, .long 0, .int 0, .int 0, .int 0, .int 0, .int 0]))] H := hP
  have hD : va_D A [(h0, .inr (6, [.ref m0, .ref q_1, .null])), (q_1, .inl (cA_2, 8, .inr (.inr (.inr (.inr f_17))))), (q_19, .inr (4, [.int 0, .int 0, .long 0, .int 0, .int 0, .int 0, .int 0, .int 0]))] := hD
  have hK : va_K (dC, dI) vwCl [(cA_2, .object RX2)] s := hK
  refine va_astq hx hb hK hP hD hS 1 0 2 4 rfl rfl rfl rfl (by unfold vp_in; decide) dX4_init_38 (fun H locs hP hD hS => ?_)
  obtain ⟨f_22, ef_22⟩ : ∃ y : Nat → Option Nat, y = va_up f_17 3 (some q_19) := ⟨_, rfl⟩
  have hP : va_P (dC, dI) vwCl [(h0, .inr (6, [.ref m0, .ref q_1, .null])), (q_1, .inl (cA_2, 8, .inr (.inr (.inr (.inr f_22))))), (q_19, .inr (4, [.int 0, .int 0, .long 0, .int 0, .int 0, .int 0, .int 0, .int 0]))] H := by rw [ef_22]; exact hP
  have hD : va_D A [(h0, .inr (6, [.ref m0, .ref q_1, .null])), (q_1, .inl (cA_2, 8, .inr (.inr (.inr (.inr f_22))))), (q_19, .inr (4, [.int 0, .int 0, .long 0, .int 0, .int 0, .int 0, .int 0, .int 0]))] := by rw [ef_22]; exact hD
  have hP := hP.sub (ws' := [(h0, .inr (6, [.ref m0, .ref q_1, .null])), (q_1, .inl (cA_2, 8, .inr (.inr (.inr (.inr f_22)))))]) [0, 1] rfl
  have hD := hD.sub (ws' := [(h0, .inr (6, [.ref m0, .ref q_1, .null])), (q_1, .inl (cA_2, 8, .inr (.inr (.inr (.inr f_22)))))]) [0, 1] (by decide) rfl
  refine lv_iinc (v := 4) (lv' := [(2, .int 4), (0, .ref h0), (1, .ref m0)]) hx hb dX4_init_39 hl (k := 0) rfl (by decide) (by decide) rfl (fun ls hl => ?_)
  refine lv_goto (tgt := 20) hx hb dX4_init_42 (by decide) ?_
  refine lv_iload_n hx hb dX4_init_20 rfl (lv_at hl 0 rfl) ?_
  refine lv_bipush (v := 8) hx hb dX4_init_21 (by decide) ?_
  refine lv_icmp_ge (tgt := 45) hx hb dX4_init_23 (by decide) (fun c_23 => absurd c_23 (by decide)) (fun c_23 => ?_)
  refine lv_aload_n hx hb dX4_init_26 rfl (lv_at hl 1 rfl) ?_
  refine va_get (D := (dC, dI)) (ci := 6) (v := .ref q_1) (C := RX4) (T := TX4) (N := 3) hx hb hts iRX4 hown hK hP 0 rfl rfl 1 (by decide) (hts (.fieldLink RX4 17 "RecordBench$RecordWriter" "pieces" "[LRecordBench$Piece;") (by decide +kernel)) (fun _ h9 => h9) rfl dX4_init_27 ?_
  refine lv_iload_n hx hb dX4_init_30 rfl (lv_at hl 0 rfl) ?_
  refine va_new (ci := 4) (fs := [.int 0, .int 0, .long 0, .int 0, .int 0, .int 0, .int 0, .int 0]) (C := RX2) (T := TX2) (N := 8) hx hb hts iRX2 tyX2 tyX2_ok hown (hts (.classLink RX4 15 RX2) (by decide +kernel)) (hts (.instantiable RX2 8) (by decide +kernel)) (hts (.initialized RX2) (by decide +kernel)) hK hP hD hS hA rfl fsX2_ok (Nat.le_of_ble_eq_true rfl) (Nat.le_of_ble_eq_true rfl) dX4_init_31 (fun q_24 H hP hD hS => ?_)
  have hP : va_P (dC, dI) vwCl [(h0, .inr (6, [.ref m0, .ref q_1, .null])), (q_1, .inl (cA_2, 8, .inr (.inr (.inr (.inr f_22))))), (q_24, .inr (4, [.int 0, .int 0, .long 0, .int 0, .int 0, .int 0, .int 0, .int 0]))] H := hP
  have hD : va_D A [(h0, .inr (6, [.ref m0, .ref q_1, .null])), (q_1, .inl (cA_2, 8, .inr (.inr (.inr (.inr f_22))))), (q_24, .inr (4, [.int 0, .int 0, .long 0, .int 0, .int 0, .int 0, .int 0, .int 0]))] := hD
  refine W.widen (k := 6) (n := 48) (by omega) (by omega) ?_
  refine lv_dup hx hb dX4_init_34 rfl ?_
  have hFc := va_free (wc := [(q_24, .inr (4, [.int 0, .int 0, .long 0, .int 0, .int 0, .int 0, .int 0, .int 0]))]) hD hS hA [2] rfl
  refine va_callv (va_runIN (As := []) (rest := [.ref q_24, .int 4, .ref q_1]) ⟨hx, hb, hml, hown, hts⟩ (c_X2_init l dC dI q_24 H.size) ⟨va_cnB 0 hts gp_X4_init_X2_init_21 rfl rfl rfl hN.2.1 (hts (.initialized RX2) (by decide +kernel)) (by decide +kernel) ⟨Nat.le_of_ble_eq_true rfl, Nat.le_of_ble_eq_true rfl⟩, rfl, (hts (.instanceMethod yX2_init) (by decide +kernel))⟩ ⟨Pr.blind _, fun U hU hW => ⟨rfl, Pr.at (hP.sub (ws' := [(q_24, .inr (4, [.int 0, .int 0, .long 0, .int 0, .int 0, .int 0, .int 0, .int 0]))]) [2] rfl) (hK.sub (tys' := []) [] rfl) (hD.sub (ws' := [(q_24, .inr (4, [.int 0, .int 0, .long 0, .int 0, .int 0, .int 0, .int 0, .int 0]))]) [2] (by decide) rfl) hN hZ hS hFc hU hW⟩⟩ rfl rfl hl.1 rfl (lv_room (Nat.le_of_ble_eq_true rfl)) dX4_init_35 ⟨Nat.le_of_ble_eq_true rfl, Nat.le_of_ble_eq_true rfl⟩) hS (fun q _ h => hFc q h) hFc (fun u t H1 locs ht hvm hw_26 hB hz1 hk1 hS => ?_)
  obtain ⟨hP, hD, hK⟩ := Bq.join (wr := [(h0, .inr (6, [.ref m0, .ref q_1, .null])), (q_1, .inl (cA_2, 8, .inr (.inr (.inr (.inr f_22)))))]) hB ht hvm hP hD [2] [0, 1] rfl rfl (by decide) (by decide) hk1 hFc hK
  generalize H1 = H at hP hS ⊢
  have hP : va_P (dC, dI) vwCl [(h0, .inr (6, [.ref m0, .ref q_1, .null])), (q_1, .inl (cA_2, 8, .inr (.inr (.inr (.inr f_22))))), (q_24, .inr (4, [.int 0, .int 0, .long 0, .int 0, .int 0, .int 0, .int 0, .int 0]))] H := hP
  have hD : va_D A [(h0, .inr (6, [.ref m0, .ref q_1, .null])), (q_1, .inl (cA_2, 8, .inr (.inr (.inr (.inr f_22))))), (q_24, .inr (4, [.int 0, .int 0, .long 0, .int 0, .int 0, .int 0, .int 0, .int 0]))] := hD
  have hK : va_K (dC, dI) vwCl [(cA_2, .object RX2)] s := hK
  refine va_astq hx hb hK hP hD hS 1 0 2 4 rfl rfl rfl rfl (by unfold vp_in; decide) dX4_init_38 (fun H locs hP hD hS => ?_)
  obtain ⟨f_27, ef_27⟩ : ∃ y : Nat → Option Nat, y = va_up f_22 4 (some q_24) := ⟨_, rfl⟩
  have hP : va_P (dC, dI) vwCl [(h0, .inr (6, [.ref m0, .ref q_1, .null])), (q_1, .inl (cA_2, 8, .inr (.inr (.inr (.inr f_27))))), (q_24, .inr (4, [.int 0, .int 0, .long 0, .int 0, .int 0, .int 0, .int 0, .int 0]))] H := by rw [ef_27]; exact hP
  have hD : va_D A [(h0, .inr (6, [.ref m0, .ref q_1, .null])), (q_1, .inl (cA_2, 8, .inr (.inr (.inr (.inr f_27))))), (q_24, .inr (4, [.int 0, .int 0, .long 0, .int 0, .int 0, .int 0, .int 0, .int 0]))] := by rw [ef_27]; exact hD
  have hP := hP.sub (ws' := [(h0, .inr (6, [.ref m0, .ref q_1, .null])), (q_1, .inl (cA_2, 8, .inr (.inr (.inr (.inr f_27)))))]) [0, 1] rfl
  have hD := hD.sub (ws' := [(h0, .inr (6, [.ref m0, .ref q_1, .null])), (q_1, .inl (cA_2, 8, .inr (.inr (.inr (.inr f_27)))))]) [0, 1] (by decide) rfl
  refine lv_iinc (v := 5) (lv' := [(2, .int 5), (0, .ref h0), (1, .ref m0)]) hx hb dX4_init_39 hl (k := 0) rfl (by decide) (by decide) rfl (fun ls hl => ?_)
  refine lv_goto (tgt := 20) hx hb dX4_init_42 (by decide) ?_
  refine lv_iload_n hx hb dX4_init_20 rfl (lv_at hl 0 rfl) ?_
  refine lv_bipush (v := 8) hx hb dX4_init_21 (by decide) ?_
  refine lv_icmp_ge (tgt := 45) hx hb dX4_init_23 (by decide) (fun c_28 => absurd c_28 (by decide)) (fun c_28 => ?_)
  refine lv_aload_n hx hb dX4_init_26 rfl (lv_at hl 1 rfl) ?_
  refine va_get (D := (dC, dI)) (ci := 6) (v := .ref q_1) (C := RX4) (T := TX4) (N := 3) hx hb hts iRX4 hown hK hP 0 rfl rfl 1 (by decide) (hts (.fieldLink RX4 17 "RecordBench$RecordWriter" "pieces" "[LRecordBench$Piece;") (by decide +kernel)) (fun _ h9 => h9) rfl dX4_init_27 ?_
  refine lv_iload_n hx hb dX4_init_30 rfl (lv_at hl 0 rfl) ?_
  refine va_new (ci := 4) (fs := [.int 0, .int 0, .long 0, .int 0, .int 0, .int 0, .int 0, .int 0]) (C := RX2) (T := TX2) (N := 8) hx hb hts iRX2 tyX2 tyX2_ok hown (hts (.classLink RX4 15 RX2) (by decide +kernel)) (hts (.instantiable RX2 8) (by decide +kernel)) (hts (.initialized RX2) (by decide +kernel)) hK hP hD hS hA rfl fsX2_ok (Nat.le_of_ble_eq_true rfl) (Nat.le_of_ble_eq_true rfl) dX4_init_31 (fun q_29 H hP hD hS => ?_)
  have hP : va_P (dC, dI) vwCl [(h0, .inr (6, [.ref m0, .ref q_1, .null])), (q_1, .inl (cA_2, 8, .inr (.inr (.inr (.inr f_27))))), (q_29, .inr (4, [.int 0, .int 0, .long 0, .int 0, .int 0, .int 0, .int 0, .int 0]))] H := hP
  have hD : va_D A [(h0, .inr (6, [.ref m0, .ref q_1, .null])), (q_1, .inl (cA_2, 8, .inr (.inr (.inr (.inr f_27))))), (q_29, .inr (4, [.int 0, .int 0, .long 0, .int 0, .int 0, .int 0, .int 0, .int 0]))] := hD
  refine W.widen (k := 7) (n := 56) (by omega) (by omega) ?_
  refine lv_dup hx hb dX4_init_34 rfl ?_
  have hFc := va_free (wc := [(q_29, .inr (4, [.int 0, .int 0, .long 0, .int 0, .int 0, .int 0, .int 0, .int 0]))]) hD hS hA [2] rfl
  refine va_callv (va_runIN (As := []) (rest := [.ref q_29, .int 5, .ref q_1]) ⟨hx, hb, hml, hown, hts⟩ (c_X2_init l dC dI q_29 H.size) ⟨va_cnB 0 hts gp_X4_init_X2_init_21 rfl rfl rfl hN.2.1 (hts (.initialized RX2) (by decide +kernel)) (by decide +kernel) ⟨Nat.le_of_ble_eq_true rfl, Nat.le_of_ble_eq_true rfl⟩, rfl, (hts (.instanceMethod yX2_init) (by decide +kernel))⟩ ⟨Pr.blind _, fun U hU hW => ⟨rfl, Pr.at (hP.sub (ws' := [(q_29, .inr (4, [.int 0, .int 0, .long 0, .int 0, .int 0, .int 0, .int 0, .int 0]))]) [2] rfl) (hK.sub (tys' := []) [] rfl) (hD.sub (ws' := [(q_29, .inr (4, [.int 0, .int 0, .long 0, .int 0, .int 0, .int 0, .int 0, .int 0]))]) [2] (by decide) rfl) hN hZ hS hFc hU hW⟩⟩ rfl rfl hl.1 rfl (lv_room (Nat.le_of_ble_eq_true rfl)) dX4_init_35 ⟨Nat.le_of_ble_eq_true rfl, Nat.le_of_ble_eq_true rfl⟩) hS (fun q _ h => hFc q h) hFc (fun u t H1 locs ht hvm hw_31 hB hz1 hk1 hS => ?_)
  obtain ⟨hP, hD, hK⟩ := Bq.join (wr := [(h0, .inr (6, [.ref m0, .ref q_1, .null])), (q_1, .inl (cA_2, 8, .inr (.inr (.inr (.inr f_27)))))]) hB ht hvm hP hD [2] [0, 1] rfl rfl (by decide) (by decide) hk1 hFc hK
  generalize H1 = H at hP hS ⊢
  have hP : va_P (dC, dI) vwCl [(h0, .inr (6, [.ref m0, .ref q_1, .null])), (q_1, .inl (cA_2, 8, .inr (.inr (.inr (.inr f_27))))), (q_29, .inr (4, [.int 0, .int 0, .long 0, .int 0, .int 0, .int 0, .int 0, .int 0]))] H := hP
  have hD : va_D A [(h0, .inr (6, [.ref m0, .ref q_1, .null])), (q_1, .inl (cA_2, 8, .inr (.inr (.inr (.inr f_27))))), (q_29, .inr (4, [.int 0, .int 0, .long 0, .int 0, .int 0, .int 0, .int 0, .int 0]))] := hD
  have hK : va_K (dC, dI) vwCl [(cA_2, .object RX2)] s := hK
  refine va_astq hx hb hK hP hD hS 1 0 2 4 rfl rfl rfl rfl (by unfold vp_in; decide) dX4_init_38 (fun H locs hP hD hS => ?_)
  obtain ⟨f_32, ef_32⟩ : ∃ y : Nat → Option Nat, y = va_up f_27 5 (some q_29) := ⟨_, rfl⟩
  have hP : va_P (dC, dI) vwCl [(h0, .inr (6, [.ref m0, .ref q_1, .null])), (q_1, .inl (cA_2, 8, .inr (.inr (.inr (.inr f_32))))), (q_29, .inr (4, [.int 0, .int 0, .long 0, .int 0, .int 0, .int 0, .int 0, .int 0]))] H := by rw [ef_32]; exact hP
  have hD : va_D A [(h0, .inr (6, [.ref m0, .ref q_1, .null])), (q_1, .inl (cA_2, 8, .inr (.inr (.inr (.inr f_32))))), (q_29, .inr (4, [.int 0, .int 0, .long 0, .int 0, .int 0, .int 0, .int 0, .int 0]))] := by rw [ef_32]; exact hD
  have hP := hP.sub (ws' := [(h0, .inr (6, [.ref m0, .ref q_1, .null])), (q_1, .inl (cA_2, 8, .inr (.inr (.inr (.inr f_32)))))]) [0, 1] rfl
  have hD := hD.sub (ws' := [(h0, .inr (6, [.ref m0, .ref q_1, .null])), (q_1, .inl (cA_2, 8, .inr (.inr (.inr (.inr f_32)))))]) [0, 1] (by decide) rfl
  refine lv_iinc (v := 6) (lv' := [(2, .int 6), (0, .ref h0), (1, .ref m0)]) hx hb dX4_init_39 hl (k := 0) rfl (by decide) (by decide) rfl (fun ls hl => ?_)
  refine lv_goto (tgt := 20) hx hb dX4_init_42 (by decide) ?_
  refine lv_iload_n hx hb dX4_init_20 rfl (lv_at hl 0 rfl) ?_
  refine lv_bipush (v := 8) hx hb dX4_init_21 (by decide) ?_
  refine lv_icmp_ge (tgt := 45) hx hb dX4_init_23 (by decide) (fun c_33 => absurd c_33 (by decide)) (fun c_33 => ?_)
  refine lv_aload_n hx hb dX4_init_26 rfl (lv_at hl 1 rfl) ?_
  refine va_get (D := (dC, dI)) (ci := 6) (v := .ref q_1) (C := RX4) (T := TX4) (N := 3) hx hb hts iRX4 hown hK hP 0 rfl rfl 1 (by decide) (hts (.fieldLink RX4 17 "RecordBench$RecordWriter" "pieces" "[LRecordBench$Piece;") (by decide +kernel)) (fun _ h9 => h9) rfl dX4_init_27 ?_
  refine lv_iload_n hx hb dX4_init_30 rfl (lv_at hl 0 rfl) ?_
  refine va_new (ci := 4) (fs := [.int 0, .int 0, .long 0, .int 0, .int 0, .int 0, .int 0, .int 0]) (C := RX2) (T := TX2) (N := 8) hx hb hts iRX2 tyX2 tyX2_ok hown (hts (.classLink RX4 15 RX2) (by decide +kernel)) (hts (.instantiable RX2 8) (by decide +kernel)) (hts (.initialized RX2) (by decide +kernel)) hK hP hD hS hA rfl fsX2_ok (Nat.le_of_ble_eq_true rfl) (Nat.le_of_ble_eq_true rfl) dX4_init_31 (fun q_34 H hP hD hS => ?_)
  have hP : va_P (dC, dI) vwCl [(h0, .inr (6, [.ref m0, .ref q_1, .null])), (q_1, .inl (cA_2, 8, .inr (.inr (.inr (.inr f_32))))), (q_34, .inr (4, [.int 0, .int 0, .long 0, .int 0, .int 0, .int 0, .int 0, .int 0]))] H := hP
  have hD : va_D A [(h0, .inr (6, [.ref m0, .ref q_1, .null])), (q_1, .inl (cA_2, 8, .inr (.inr (.inr (.inr f_32))))), (q_34, .inr (4, [.int 0, .int 0, .long 0, .int 0, .int 0, .int 0, .int 0, .int 0]))] := hD
  refine W.widen (k := 8) (n := 64) (by omega) (by omega) ?_
  refine lv_dup hx hb dX4_init_34 rfl ?_
  have hFc := va_free (wc := [(q_34, .inr (4, [.int 0, .int 0, .long 0, .int 0, .int 0, .int 0, .int 0, .int 0]))]) hD hS hA [2] rfl
  refine va_callv (va_runIN (As := []) (rest := [.ref q_34, .int 6, .ref q_1]) ⟨hx, hb, hml, hown, hts⟩ (c_X2_init l dC dI q_34 H.size) ⟨va_cnB 0 hts gp_X4_init_X2_init_21 rfl rfl rfl hN.2.1 (hts (.initialized RX2) (by decide +kernel)) (by decide +kernel) ⟨Nat.le_of_ble_eq_true rfl, Nat.le_of_ble_eq_true rfl⟩, rfl, (hts (.instanceMethod yX2_init) (by decide +kernel))⟩ ⟨Pr.blind _, fun U hU hW => ⟨rfl, Pr.at (hP.sub (ws' := [(q_34, .inr (4, [.int 0, .int 0, .long 0, .int 0, .int 0, .int 0, .int 0, .int 0]))]) [2] rfl) (hK.sub (tys' := []) [] rfl) (hD.sub (ws' := [(q_34, .inr (4, [.int 0, .int 0, .long 0, .int 0, .int 0, .int 0, .int 0, .int 0]))]) [2] (by decide) rfl) hN hZ hS hFc hU hW⟩⟩ rfl rfl hl.1 rfl (lv_room (Nat.le_of_ble_eq_true rfl)) dX4_init_35 ⟨Nat.le_of_ble_eq_true rfl, Nat.le_of_ble_eq_true rfl⟩) hS (fun q _ h => hFc q h) hFc (fun u t H1 locs ht hvm hw_36 hB hz1 hk1 hS => ?_)
  obtain ⟨hP, hD, hK⟩ := Bq.join (wr := [(h0, .inr (6, [.ref m0, .ref q_1, .null])), (q_1, .inl (cA_2, 8, .inr (.inr (.inr (.inr f_32)))))]) hB ht hvm hP hD [2] [0, 1] rfl rfl (by decide) (by decide) hk1 hFc hK
  generalize H1 = H at hP hS ⊢
  have hP : va_P (dC, dI) vwCl [(h0, .inr (6, [.ref m0, .ref q_1, .null])), (q_1, .inl (cA_2, 8, .inr (.inr (.inr (.inr f_32))))), (q_34, .inr (4, [.int 0, .int 0, .long 0, .int 0, .int 0, .int 0, .int 0, .int 0]))] H := hP
  have hD : va_D A [(h0, .inr (6, [.ref m0, .ref q_1, .null])), (q_1, .inl (cA_2, 8, .inr (.inr (.inr (.inr f_32))))), (q_34, .inr (4, [.int 0, .int 0, .long 0, .int 0, .int 0, .int 0, .int 0, .int 0]))] := hD
  have hK : va_K (dC, dI) vwCl [(cA_2, .object RX2)] s := hK
  refine va_astq hx hb hK hP hD hS 1 0 2 4 rfl rfl rfl rfl (by unfold vp_in; decide) dX4_init_38 (fun H locs hP hD hS => ?_)
  obtain ⟨f_37, ef_37⟩ : ∃ y : Nat → Option Nat, y = va_up f_32 6 (some q_34) := ⟨_, rfl⟩
  have hP : va_P (dC, dI) vwCl [(h0, .inr (6, [.ref m0, .ref q_1, .null])), (q_1, .inl (cA_2, 8, .inr (.inr (.inr (.inr f_37))))), (q_34, .inr (4, [.int 0, .int 0, .long 0, .int 0, .int 0, .int 0, .int 0, .int 0]))] H := by rw [ef_37]; exact hP
  have hD : va_D A [(h0, .inr (6, [.ref m0, .ref q_1, .null])), (q_1, .inl (cA_2, 8, .inr (.inr (.inr (.inr f_37))))), (q_34, .inr (4, [.int 0, .int 0, .long 0, .int 0, .int 0, .int 0, .int 0, .int 0]))] := by rw [ef_37]; exact hD
  have hP := hP.sub (ws' := [(h0, .inr (6, [.ref m0, .ref q_1, .null])), (q_1, .inl (cA_2, 8, .inr (.inr (.inr (.inr f_37)))))]) [0, 1] rfl
  have hD := hD.sub (ws' := [(h0, .inr (6, [.ref m0, .ref q_1, .null])), (q_1, .inl (cA_2, 8, .inr (.inr (.inr (.inr f_37)))))]) [0, 1] (by decide) rfl
  refine lv_iinc (v := 7) (lv' := [(2, .int 7), (0, .ref h0), (1, .ref m0)]) hx hb dX4_init_39 hl (k := 0) rfl (by decide) (by decide) rfl (fun ls hl => ?_)
  refine lv_goto (tgt := 20) hx hb dX4_init_42 (by decide) ?_
  refine lv_iload_n hx hb dX4_init_20 rfl (lv_at hl 0 rfl) ?_
  refine lv_bipush (v := 8) hx hb dX4_init_21 (by decide) ?_
  refine lv_icmp_ge (tgt := 45) hx hb dX4_init_23 (by decide) (fun c_38 => absurd c_38 (by decide)) (fun c_38 => ?_)
  refine lv_aload_n hx hb dX4_init_26 rfl (lv_at hl 1 rfl) ?_
  refine va_get (D := (dC, dI)) (ci := 6) (v := .ref q_1) (C := RX4) (T := TX4) (N := 3) hx hb hts iRX4 hown hK hP 0 rfl rfl 1 (by decide) (hts (.fieldLink RX4 17 "RecordBench$RecordWriter" "pieces" "[LRecordBench$Piece;") (by decide +kernel)) (fun _ h9 => h9) rfl dX4_init_27 ?_
  refine lv_iload_n hx hb dX4_init_30 rfl (lv_at hl 0 rfl) ?_
  refine va_new (ci := 4) (fs := [.int 0, .int 0, .long 0, .int 0, .int 0, .int 0, .int 0, .int 0]) (C := RX2) (T := TX2) (N := 8) hx hb hts iRX2 tyX2 tyX2_ok hown (hts (.classLink RX4 15 RX2) (by decide +kernel)) (hts (.instantiable RX2 8) (by decide +kernel)) (hts (.initialized RX2) (by decide +kernel)) hK hP hD hS hA rfl fsX2_ok (Nat.le_of_ble_eq_true rfl) (Nat.le_of_ble_eq_true rfl) dX4_init_31 (fun q_39 H hP hD hS => ?_)
  have hP : va_P (dC, dI) vwCl [(h0, .inr (6, [.ref m0, .ref q_1, .null])), (q_1, .inl (cA_2, 8, .inr (.inr (.inr (.inr f_37))))), (q_39, .inr (4, [.int 0, .int 0, .long 0, .int 0, .int 0, .int 0, .int 0, .int 0]))] H := hP
  have hD : va_D A [(h0, .inr (6, [.ref m0, .ref q_1, .null])), (q_1, .inl (cA_2, 8, .inr (.inr (.inr (.inr f_37))))), (q_39, .inr (4, [.int 0, .int 0, .long 0, .int 0, .int 0, .int 0, .int 0, .int 0]))] := hD
  refine W.widen (k := 9) (n := 72) (by omega) (by omega) ?_
  refine lv_dup hx hb dX4_init_34 rfl ?_
  have hFc := va_free (wc := [(q_39, .inr (4, [.int 0, .int 0, .long 0, .int 0, .int 0, .int 0, .int 0, .int 0]))]) hD hS hA [2] rfl
  refine va_callv (va_runIN (As := []) (rest := [.ref q_39, .int 7, .ref q_1]) ⟨hx, hb, hml, hown, hts⟩ (c_X2_init l dC dI q_39 H.size) ⟨va_cnB 0 hts gp_X4_init_X2_init_21 rfl rfl rfl hN.2.1 (hts (.initialized RX2) (by decide +kernel)) (by decide +kernel) ⟨Nat.le_of_ble_eq_true rfl, Nat.le_of_ble_eq_true rfl⟩, rfl, (hts (.instanceMethod yX2_init) (by decide +kernel))⟩ ⟨Pr.blind _, fun U hU hW => ⟨rfl, Pr.at (hP.sub (ws' := [(q_39, .inr (4, [.int 0, .int 0, .long 0, .int 0, .int 0, .int 0, .int 0, .int 0]))]) [2] rfl) (hK.sub (tys' := []) [] rfl) (hD.sub (ws' := [(q_39, .inr (4, [.int 0, .int 0, .long 0, .int 0, .int 0, .int 0, .int 0, .int 0]))]) [2] (by decide) rfl) hN hZ hS hFc hU hW⟩⟩ rfl rfl hl.1 rfl (lv_room (Nat.le_of_ble_eq_true rfl)) dX4_init_35 ⟨Nat.le_of_ble_eq_true rfl, Nat.le_of_ble_eq_true rfl⟩) hS (fun q _ h => hFc q h) hFc (fun u t H1 locs ht hvm hw_41 hB hz1 hk1 hS => ?_)
  obtain ⟨hP, hD, hK⟩ := Bq.join (wr := [(h0, .inr (6, [.ref m0, .ref q_1, .null])), (q_1, .inl (cA_2, 8, .inr (.inr (.inr (.inr f_37)))))]) hB ht hvm hP hD [2] [0, 1] rfl rfl (by decide) (by decide) hk1 hFc hK
  generalize H1 = H at hP hS ⊢
  have hP : va_P (dC, dI) vwCl [(h0, .inr (6, [.ref m0, .ref q_1, .null])), (q_1, .inl (cA_2, 8, .inr (.inr (.inr (.inr f_37))))), (q_39, .inr (4, [.int 0, .int 0, .long 0, .int 0, .int 0, .int 0, .int 0, .int 0]))] H := hP
  have hD : va_D A [(h0, .inr (6, [.ref m0, .ref q_1, .null])), (q_1, .inl (cA_2, 8, .inr (.inr (.inr (.inr f_37))))), (q_39, .inr (4, [.int 0, .int 0, .long 0, .int 0, .int 0, .int 0, .int 0, .int 0]))] := hD
  have hK : va_K (dC, dI) vwCl [(cA_2, .object RX2)] s := hK
  refine va_astq hx hb hK hP hD hS 1 0 2 4 rfl rfl rfl rfl (by unfold vp_in; decide) dX4_init_38 (fun H locs hP hD hS => ?_)
  obtain ⟨f_42, ef_42⟩ : ∃ y : Nat → Option Nat, y = va_up f_37 7 (some q_39) := ⟨_, rfl⟩
  have hP : va_P (dC, dI) vwCl [(h0, .inr (6, [.ref m0, .ref q_1, .null])), (q_1, .inl (cA_2, 8, .inr (.inr (.inr (.inr f_42))))), (q_39, .inr (4, [.int 0, .int 0, .long 0, .int 0, .int 0, .int 0, .int 0, .int 0]))] H := by rw [ef_42]; exact hP
  have hD : va_D A [(h0, .inr (6, [.ref m0, .ref q_1, .null])), (q_1, .inl (cA_2, 8, .inr (.inr (.inr (.inr f_42))))), (q_39, .inr (4, [.int 0, .int 0, .long 0, .int 0, .int 0, .int 0, .int 0, .int 0]))] := by rw [ef_42]; exact hD
  have hP := hP.sub (ws' := [(h0, .inr (6, [.ref m0, .ref q_1, .null])), (q_1, .inl (cA_2, 8, .inr (.inr (.inr (.inr f_42)))))]) [0, 1] rfl
  have hD := hD.sub (ws' := [(h0, .inr (6, [.ref m0, .ref q_1, .null])), (q_1, .inl (cA_2, 8, .inr (.inr (.inr (.inr f_42)))))]) [0, 1] (by decide) rfl
  refine lv_iinc (v := 8) (lv' := [(2, .int 8), (0, .ref h0), (1, .ref m0)]) hx hb dX4_init_39 hl (k := 0) rfl (by decide) (by decide) rfl (fun ls hl => ?_)
  refine lv_goto (tgt := 20) hx hb dX4_init_42 (by decide) ?_
  refine lv_iload_n hx hb dX4_init_20 rfl (lv_at hl 0 rfl) ?_
  refine lv_bipush (v := 8) hx hb dX4_init_21 (by decide) ?_
  refine lv_icmp_ge (tgt := 45) hx hb dX4_init_23 (by decide) (fun c_43 => ?_) (fun c_43 => absurd (by decide) c_43)
  refine lv_aload_n hx hb dX4_init_45 rfl (lv_at hl 1 rfl) ?_
  refine va_new (ci := 7) (fs := [.null, .int 0]) (C := RX5) (T := TX5) (N := 2) hx hb hts iRX5 tyX5 tyX5_ok hown (hts (.classLink RX4 22 RX5) (by decide +kernel)) (hts (.instantiable RX5 2) (by decide +kernel)) (hts (.initialized RX5) (by decide +kernel)) hK hP hD hS hA rfl fsX5_ok (Nat.le_of_ble_eq_true rfl) (Nat.le_of_ble_eq_true rfl) dX4_init_46 (fun q_44 H hP hD hS => ?_)
  have hP : va_P (dC, dI) vwCl [(h0, .inr (6, [.ref m0, .ref q_1, .null])), (q_1, .inl (cA_2, 8, .inr (.inr (.inr (.inr f_42))))), (q_44, .inr (7, [.null, .int 0]))] H := hP
  have hD : va_D A [(h0, .inr (6, [.ref m0, .ref q_1, .null])), (q_1, .inl (cA_2, 8, .inr (.inr (.inr (.inr f_42))))), (q_44, .inr (7, [.null, .int 0]))] := hD
  refine W.widen (k := 10) (n := 74) (by omega) (by omega) ?_
  refine lv_dup hx hb dX4_init_49 rfl ?_
  refine lv_iconst (v := 0) hx hb dX4_init_50 (by decide) ?_
  have hFc := va_free (wc := [(q_44, .inr (7, [.null, .int 0]))]) hD hS hA [2] rfl
  refine va_callv (va_runI (As := [.int 0]) (rest := [.ref q_44, .ref h0]) ⟨hx, hb, hml, hown, hts⟩ (c_X5_init l dC dI q_44 0 0 (by decide) (by decide) (by decide) H.size) (cwI 1 hts gp_X4_init_X5_init_24 rfl rfl rfl (hts (.initialized RX5) (by decide +kernel)) (hts (.methodLink RX4 24 yX5_init) (by decide +kernel)) (hts (.instanceMethod yX5_init) (by decide +kernel)) rfl (by decide +kernel) ⟨Nat.le_of_ble_eq_true rfl, Nat.le_of_ble_eq_true rfl⟩) ⟨Pr.blind _, fun U hU hW => ⟨rfl, Pr.at (hP.sub (ws' := [(q_44, .inr (7, [.null, .int 0]))]) [2] rfl) (hK.sub (tys' := []) [] rfl) (hD.sub (ws' := [(q_44, .inr (7, [.null, .int 0]))]) [2] (by decide) rfl) hN hZ hS hFc hU hW⟩⟩ rfl rfl hl.1 rfl (lv_room (Nat.le_of_ble_eq_true rfl)) dX4_init_51 ⟨Nat.le_of_ble_eq_true rfl, Nat.le_of_ble_eq_true rfl⟩) hS (fun q _ h => hFc q h) hFc (fun u t H1 locs ht hvm hw_46 hB hz1 hk1 hS => ?_)
  obtain ⟨q_47, cA_48⟩ := u
  obtain ⟨hP, hD, hK⟩ := Bq.join (wr := [(h0, .inr (6, [.ref m0, .ref q_1, .null])), (q_1, .inl (cA_2, 8, .inr (.inr (.inr (.inr f_42)))))]) hB ht hvm hP hD [2] [0, 1] rfl rfl (by decide) (by decide) hk1 hFc hK
  generalize H1 = H at hP hS ⊢
  have hP : va_P (dC, dI) vwCl [(h0, .inr (6, [.ref m0, .ref q_1, .null])), (q_1, .inl (cA_2, 8, .inr (.inr (.inr (.inr f_42))))), (q_44, .inr (7, [.ref q_47, .int 0])), (q_47, .inl (cA_48, 0, .inl (fun _ => 0)))] H := hP
  have hD : va_D A [(h0, .inr (6, [.ref m0, .ref q_1, .null])), (q_1, .inl (cA_2, 8, .inr (.inr (.inr (.inr f_42))))), (q_44, .inr (7, [.ref q_47, .int 0])), (q_47, .inl (cA_48, 0, .inl (fun _ => 0)))] := hD
  have hK : va_K (dC, dI) vwCl [(cA_2, .object RX2), (cA_48, .int)] s := hK
  refine W.widen (k := 11) (n := 74) (by omega) (by omega) ?_
  refine va_putF (D := (dC, dI)) (ci := 6) (v := .ref q_44) (ty := (.object "RecordBench$Row")) (C := RX4) (T := TX4) (N := 3) hx hb hts iRX4 tyX4 tyX4_ok nmX4 hown hK hP hD hS 0 rfl rfl 2 (by decide) (hts (.fieldLink RX4 27 "RecordBench$RecordWriter" "nothing" "LRecordBench$Row;") (by decide +kernel)) (fun _ h9 => h9) rfl hin rfl (by decide +kernel) rfl rfl (Nat.le_of_ble_eq_true rfl) dX4_init_54 (fun H locs hP hD hS => ?_)
  have hP : va_P (dC, dI) vwCl [(h0, .inr (6, [.ref m0, .ref q_1, .ref q_44])), (q_1, .inl (cA_2, 8, .inr (.inr (.inr (.inr f_42))))), (q_44, .inr (7, [.ref q_47, .int 0])), (q_47, .inl (cA_48, 0, .inl (fun _ => 0)))] H := hP
  have hD : va_D A [(h0, .inr (6, [.ref m0, .ref q_1, .ref q_44])), (q_1, .inl (cA_2, 8, .inr (.inr (.inr (.inr f_42))))), (q_44, .inr (7, [.ref q_47, .int 0])), (q_47, .inl (cA_48, 0, .inl (fun _ => 0)))] := hD
  have hP9 := hP.sub (ws' := []) [] rfl
  have hD9 := hD.sub (ws' := []) [] (by decide) rfl
  have hK9 := hK.sub (tys' := []) [] rfl
  exact W.vret hx hb hr (fun t ht hW => ⟨⟨(), rfl, trivial, by rw [ht]; exact hP9, va_K.moved hW.alike hK9, hD9⟩, hS.F ht⟩) hS.2.2 dX4_init_57
def wp_X7_init : List Cond := .code yX7_init cX7_init 2 none :: ([.methodLink RX7 3 objectInit, .instanceMethod objectInit, .code objectInit ⟨#[0xb1]⟩ 1 none, .fieldLink RX7 9 "RecordBench$Walks" "makes" "[LRecordBench$Make;", .arrayClass .int, .fieldLink RX7 15 "RecordBench$Walks" "seen" "[I"] ++ wsX70)
set_option maxHeartbeats 4000000 in
set_option maxRecDepth 100000 in
theorem c_X7_init (l : Launch) (dC : Nat → ClassId) (dI : Nat → Nat → Nat) (h0 : Nat) (m0 : Nat) (sz : Nat) : Met l yX7_init wp_X7_init ({ frames := 1, cells := 1, slots := 1024, locals := 16 }) (va_Pc [.ref h0, .ref m0] (Pr (dC, dI) [] [(h0, .inr (9, [.null, .null]))] sz)) (va_Qv (fun _ : Unit => True) (Bq (dC, dI) (fun _ : Unit => []) (fun _ : Unit => []) (va_A [(h0, .inr (9, [.null, .null]))] sz)) (va_A [(h0, .inr (9, [.null, .null]))] sz)) 1 1024 (va_A [(h0, .inr (9, [.null, .null]))] sz) := by
  refine Met.ofW (cc := cX7_init) (maxL := 2) (ret := none) (by decide) rfl ?_
  intro p e s m args below meth c s₁ B hml hv
  obtain ⟨rfl, hsz, hP, hK, hD0, hN, hZ⟩ := hv
  have hx := B.exec
  have hb := B.bytes
  have hr := B.returns
  have hts := atoms_spec (ws := wp_X7_init) B.pre
  have hown : s.vm.findClass RX7 = some m.cls := findClass_of_methodNamed B.named
  have hlocks := B.notSynchronized
  have hin : meth.name = "<init>" := (name_of_methodNamed B.named B.method).1
  have iRX7 : ∀ w ∈ u_ws RX7 TX7 2, w ∈ wp_X7_init := by decide +kernel
  subst hsz
  have hD := hD0.self (sz := s.heap.size)
  generalize hAe : va_A [(h0, .inr (9, [.null, .null]))] s.heap.size = A at hD hZ ⊢
  have hA : ∀ q : Nat, s.heap.size ≤ q → A q := fun q h => by rw [← hAe]; exact Or.inr h
  have hS : va_S A s.heap s.heap [] := va_S.rf
  have hP : va_P (dC, dI) vwCl [(h0, .inr (9, [.null, .null]))] s.heap := hP
  have hl := lv_entry ([.ref h0, .ref m0]) (n := 2) (Nat.le_of_ble_eq_true rfl)
  rw [lg_entry_eq]
  generalize (lg_sl ([.ref h0, .ref m0]) ++ List.replicate (2 - (lg_sl ([.ref h0, .ref m0])).length) Slot.unset).toArray = ls at hl ⊢
  have hl : lv_has ls 2 [(0, .ref h0), (1, .ref m0)] := hl
  refine lv_aload_n hx hb dX7_init_0 rfl (lv_at hl 0 rfl) ?_
  refine W.objInit hx hb hown (hts (.methodLink RX7 3 objectInit) (by decide +kernel)) (hts (.instanceMethod objectInit) (by decide +kernel)) (hts (.code objectInit ⟨#[0xb1]⟩ 1 none) (by decide +kernel)) rfl (by rw [hml]; exact hl.1) rfl dX7_init_1 (Nat.le_of_ble_eq_true rfl) (Nat.le_of_ble_eq_true rfl) ?_
  refine W.eq (g2 := F0 m 4 ls []) rfl ?_
  refine lv_aload_n hx hb dX7_init_4 rfl (lv_at hl 0 rfl) ?_
  refine lv_aload_n hx hb dX7_init_5 rfl (lv_at hl 1 rfl) ?_
  refine va_putF (D := (dC, dI)) (ci := 9) (v := .ref m0) (ty := (.array (.object "RecordBench$Make"))) (C := RX7) (T := TX7) (N := 2) hx hb hts iRX7 tyX7 tyX7_ok nmX7 hown hK hP hD hS 0 rfl rfl 0 (by decide) (hts (.fieldLink RX7 9 "RecordBench$Walks" "makes" "[LRecordBench$Make;") (by decide +kernel)) (fun _ h9 => h9) rfl hin rfl (by decide +kernel) rfl rfl (Nat.le_of_ble_eq_true rfl) dX7_init_6 (fun H locs hP hD hS => ?_)
  have hP : va_P (dC, dI) vwCl [(h0, .inr (9, [.ref m0, .null]))] H := hP
  have hD : va_D A [(h0, .inr (9, [.ref m0, .null]))] := hD
  refine lv_aload_n hx hb dX7_init_9 rfl (lv_at hl 0 rfl) ?_
  refine lv_sipush (v := 1024) hx hb dX7_init_10 (by decide) ?_
  refine va_newa (atype := .int) (ty := .int) (a0 := (1024, .inl (fun _ => 0))) hx hb (hts (.arrayClass .int) (by decide +kernel)) rfl hK hP hD hS hA (fun _ => rfl) (by decide) (by decide) (by decide) (Nat.le_of_ble_eq_true rfl) (Nat.le_of_ble_eq_true rfl) dX7_init_13 (fun q_1 cA_2 H hK hP hD hS => ?_)
  have hP : va_P (dC, dI) vwCl [(h0, .inr (9, [.ref m0, .null])), (q_1, .inl (cA_2, 1024, .inl (fun _ => 0)))] H := hP
  have hD : va_D A [(h0, .inr (9, [.ref m0, .null])), (q_1, .inl (cA_2, 1024, .inl (fun _ => 0)))] := hD
  have hK : va_K (dC, dI) vwCl [(cA_2, .int)] s := hK
  refine W.widen (k := 1) (n := 1024) (by omega) (by omega) ?_
  refine va_putF (D := (dC, dI)) (ci := 9) (v := .ref q_1) (ty := (.array .int)) (C := RX7) (T := TX7) (N := 2) hx hb hts iRX7 tyX7 tyX7_ok nmX7 hown hK hP hD hS 0 rfl rfl 1 (by decide) (hts (.fieldLink RX7 15 "RecordBench$Walks" "seen" "[I") (by decide +kernel)) (fun _ h9 => h9) rfl hin rfl (by decide +kernel) rfl rfl (Nat.le_of_ble_eq_true rfl) dX7_init_15 (fun H locs hP hD hS => ?_)
  have hP : va_P (dC, dI) vwCl [(h0, .inr (9, [.ref m0, .ref q_1])), (q_1, .inl (cA_2, 1024, .inl (fun _ => 0)))] H := hP
  have hD : va_D A [(h0, .inr (9, [.ref m0, .ref q_1])), (q_1, .inl (cA_2, 1024, .inl (fun _ => 0)))] := hD
  have hP9 := hP.sub (ws' := []) [] rfl
  have hD9 := hD.sub (ws' := []) [] (by decide) rfl
  have hK9 := hK.sub (tys' := []) [] rfl
  exact W.vret hx hb hr (fun t ht hW => ⟨⟨(), rfl, trivial, by rw [ht]; exact hP9, va_K.moved hW.alike hK9, hD9⟩, hS.F ht⟩) hS.2.2 dX7_init_18
def wp_J5_init_d00df : List Cond := .code yJ5_init_d00df cJ5_init_d00df 2 none :: ([.methodLink RJ5 3 objectInit, .instanceMethod objectInit, .code objectInit ⟨#[0xb1]⟩ 1 none, .fieldLink RJ5 18 "java/lang/String" "COMPACT_STRINGS" "Z", .arrayClass .byte, .fieldLink RJ5 15 "java/lang/AbstractStringBuilder" "value" "[B", .fieldLink RJ5 22 "java/lang/AbstractStringBuilder" "coder" "B"] ++ wsJ40)
set_option maxHeartbeats 4000000 in
set_option maxRecDepth 100000 in
theorem c_J5_init_d00df (l : Launch) (dC : Nat → ClassId) (dI : Nat → Nat → Nat) (h0 : Nat) (sz : Nat) : Met l yJ5_init_d00df wp_J5_init_d00df ({ frames := 1, cells := 1, slots := 16, locals := 16 }) (va_Pc [.ref h0, .int 16] (Pr (dC, dI) [] [(h0, .inr (1, [.null, .int 0, .int 0, .int 0]))] sz)) (va_Qv (fun _ : Unit => True) (Bq (dC, dI) (fun _ : Unit => []) (fun _ : Unit => []) (va_A [(h0, .inr (1, [.null, .int 0, .int 0, .int 0]))] sz)) (va_A [(h0, .inr (1, [.null, .int 0, .int 0, .int 0]))] sz)) 1 16 (va_A [(h0, .inr (1, [.null, .int 0, .int 0, .int 0]))] sz) := by
  refine Met.ofW (cc := cJ5_init_d00df) (maxL := 2) (ret := none) (by decide) rfl ?_
  intro p e s m args below meth c s₁ B hml hv
  obtain ⟨rfl, hsz, hP, hK, hD0, hN, hZ⟩ := hv
  have hx := B.exec
  have hb := B.bytes
  have hr := B.returns
  have hts := atoms_spec (ws := wp_J5_init_d00df) B.pre
  have hown : s.vm.findClass RJ5 = some m.cls := findClass_of_methodNamed B.named
  have hlocks := B.notSynchronized
  have iRJ4 : ∀ w ∈ u_ws RJ4 TJ4 4, w ∈ wp_J5_init_d00df := by decide +kernel
  subst hsz
  have hD := hD0.self (sz := s.heap.size)
  generalize hAe : va_A [(h0, .inr (1, [.null, .int 0, .int 0, .int 0]))] s.heap.size = A at hD hZ ⊢
  have hA : ∀ q : Nat, s.heap.size ≤ q → A q := fun q h => by rw [← hAe]; exact Or.inr h
  have hS : va_S A s.heap s.heap [] := va_S.rf
  have hP : va_P (dC, dI) vwCl [(h0, .inr (1, [.null, .int 0, .int 0, .int 0]))] s.heap := hP
  have hl := lv_entry ([.ref h0, .int 16]) (n := 2) (Nat.le_of_ble_eq_true rfl)
  rw [lg_entry_eq]
  generalize (lg_sl ([.ref h0, .int 16]) ++ List.replicate (2 - (lg_sl ([.ref h0, .int 16])).length) Slot.unset).toArray = ls at hl ⊢
  have hl : lv_has ls 2 [(0, .ref h0), (1, .int 16)] := hl
  refine lv_aload_n hx hb dJ5_init_d00df_0 rfl (lv_at hl 0 rfl) ?_
  refine W.objInit hx hb hown (hts (.methodLink RJ5 3 objectInit) (by decide +kernel)) (hts (.instanceMethod objectInit) (by decide +kernel)) (hts (.code objectInit ⟨#[0xb1]⟩ 1 none) (by decide +kernel)) rfl (by rw [hml]; exact hl.1) rfl dJ5_init_d00df_1 (Nat.le_of_ble_eq_true rfl) (Nat.le_of_ble_eq_true rfl) ?_
  refine W.eq (g2 := F0 m 4 ls []) rfl ?_
  refine va_gets (C := "java/lang/String") (n := "COMPACT_STRINGS") (d := "Z") (v := .int 1) hx hb hZ hS hown (hts (.fieldLink RJ5 18 "java/lang/String" "COMPACT_STRINGS" "Z") (by decide +kernel)) (fun _ h9 => h9) dJ5_init_d00df_4 ?_
  refine lv_if_eq (tgt := 25) hx hb dJ5_init_d00df_7 (by decide) (fun c_1 => absurd c_1 (by decide)) (fun c_1 => ?_)
  refine lv_aload_n hx hb dJ5_init_d00df_10 rfl (lv_at hl 0 rfl) ?_
  refine lv_iload_n hx hb dJ5_init_d00df_11 rfl (lv_at hl 1 rfl) ?_
  refine va_newa (atype := .byte) (ty := .byte) (a0 := (16, .inl (fun _ => 0))) hx hb (hts (.arrayClass .byte) (by decide +kernel)) rfl hK hP hD hS hA (fun _ => rfl) (by decide) (by decide) (by decide) (Nat.le_of_ble_eq_true rfl) (Nat.le_of_ble_eq_true rfl) dJ5_init_d00df_12 (fun q_2 cA_3 H hK hP hD hS => ?_)
  have hP : va_P (dC, dI) vwCl [(h0, .inr (1, [.null, .int 0, .int 0, .int 0])), (q_2, .inl (cA_3, 16, .inl (fun _ => 0)))] H := hP
  have hD : va_D A [(h0, .inr (1, [.null, .int 0, .int 0, .int 0])), (q_2, .inl (cA_3, 16, .inl (fun _ => 0)))] := hD
  have hK : va_K (dC, dI) vwCl [(cA_3, .byte)] s := hK
  refine W.widen (k := 1) (n := 16) (by omega) (by omega) ?_
  refine va_put (D := (dC, dI)) (ci := 1) (v := .ref q_2) (ty := (.array .byte)) (C := RJ4) (T := TJ4) (N := 4) hx hb hts iRJ4 tyJ4 tyJ4_ok nmJ4 hown hK hP hD hS 0 rfl rfl 0 (by decide) (hts (.fieldLink RJ5 15 "java/lang/AbstractStringBuilder" "value" "[B") (by decide +kernel)) (fun _ h9 => h9) rfl (by decide +kernel) rfl rfl (Nat.le_of_ble_eq_true rfl) dJ5_init_d00df_14 (fun H locs hP hD hS => ?_)
  have hP : va_P (dC, dI) vwCl [(h0, .inr (1, [.ref q_2, .int 0, .int 0, .int 0])), (q_2, .inl (cA_3, 16, .inl (fun _ => 0)))] H := hP
  have hD : va_D A [(h0, .inr (1, [.ref q_2, .int 0, .int 0, .int 0])), (q_2, .inl (cA_3, 16, .inl (fun _ => 0)))] := hD
  refine lv_aload_n hx hb dJ5_init_d00df_17 rfl (lv_at hl 0 rfl) ?_
  refine lv_iconst (v := 0) hx hb dJ5_init_d00df_18 (by decide) ?_
  refine va_put (D := (dC, dI)) (ci := 1) (v := .int 0) (ty := .byte) (C := RJ4) (T := TJ4) (N := 4) hx hb hts iRJ4 tyJ4 tyJ4_ok nmJ4 hown hK hP hD hS 0 rfl rfl 1 (by decide) (hts (.fieldLink RJ5 22 "java/lang/AbstractStringBuilder" "coder" "B") (by decide +kernel)) (fun _ h9 => h9) rfl (by decide +kernel) rfl rfl (Nat.le_of_ble_eq_true rfl) dJ5_init_d00df_19 (fun H locs hP hD hS => ?_)
  have hP : va_P (dC, dI) vwCl [(h0, .inr (1, [.ref q_2, .int 0, .int 0, .int 0])), (q_2, .inl (cA_3, 16, .inl (fun _ => 0)))] H := hP
  have hD : va_D A [(h0, .inr (1, [.ref q_2, .int 0, .int 0, .int 0])), (q_2, .inl (cA_3, 16, .inl (fun _ => 0)))] := hD
  refine lv_goto (tgt := 38) hx hb dJ5_init_d00df_22 (by decide) ?_
  have hP9 := hP.sub (ws' := []) [] rfl
  have hD9 := hD.sub (ws' := []) [] (by decide) rfl
  have hK9 := hK.sub (tys' := []) [] rfl
  exact W.vret hx hb hr (fun t ht hW => ⟨⟨(), rfl, trivial, by rw [ht]; exact hP9, va_K.moved hW.alike hK9, hD9⟩, hS.F ht⟩) hS.2.2 dJ5_init_d00df_38
def wp_J4_init_da8c8 : List Cond := .code yJ4_init_da8c8 cJ4_init_da8c8 1 none :: ([.instanceMethod yJ5_init_d00df, .initialized RJ5, .methodLink RJ4 1 yJ5_init_d00df, .code yJ5_init_d00df cJ5_init_d00df 2 none, .methodLink RJ5 3 objectInit, .instanceMethod objectInit, .code objectInit ⟨#[0xb1]⟩ 1 none, .fieldLink RJ5 18 "java/lang/String" "COMPACT_STRINGS" "Z", .arrayClass .byte, .fieldLink RJ5 15 "java/lang/AbstractStringBuilder" "value" "[B", .fieldLink RJ5 22 "java/lang/AbstractStringBuilder" "coder" "B"] ++ wsJ40)
set_option maxRecDepth 20000 in
theorem gp_J4_init_da8c8_J5_init_d00df_1 : GoodIn wp_J4_init_da8c8 (wp_J5_init_d00df) := goodIn_p _ [4, 7] rfl (by decide +kernel)
set_option maxHeartbeats 4000000 in
set_option maxRecDepth 100000 in
theorem c_J4_init_da8c8 (l : Launch) (dC : Nat → ClassId) (dI : Nat → Nat → Nat) (h0 : Nat) (sz : Nat) : Met l yJ4_init_da8c8 wp_J4_init_da8c8 ({ frames := 2, cells := 1, slots := 16, locals := 41 }) (va_Pc [.ref h0] (Pr (dC, dI) [] [(h0, .inr (1, [.null, .int 0, .int 0, .int 0]))] sz)) (va_Qv (fun _ : Unit => True) (Bq (dC, dI) (fun _ : Unit => []) (fun _ : Unit => []) (va_A [(h0, .inr (1, [.null, .int 0, .int 0, .int 0]))] sz)) (va_A [(h0, .inr (1, [.null, .int 0, .int 0, .int 0]))] sz)) 1 16 (va_A [(h0, .inr (1, [.null, .int 0, .int 0, .int 0]))] sz) := by
  refine Met.ofW (cc := cJ4_init_da8c8) (maxL := 1) (ret := none) (by decide) rfl ?_
  intro p e s m args below meth c s₁ B hml hv
  obtain ⟨rfl, hsz, hP, hK, hD0, hN, hZ⟩ := hv
  have hx := B.exec
  have hb := B.bytes
  have hr := B.returns
  have hts := atoms_spec (ws := wp_J4_init_da8c8) B.pre
  have hown : s.vm.findClass RJ4 = some m.cls := findClass_of_methodNamed B.named
  have hlocks := B.notSynchronized
  subst hsz
  have hD := hD0.self (sz := s.heap.size)
  generalize hAe : va_A [(h0, .inr (1, [.null, .int 0, .int 0, .int 0]))] s.heap.size = A at hD hZ ⊢
  have hA : ∀ q : Nat, s.heap.size ≤ q → A q := fun q h => by rw [← hAe]; exact Or.inr h
  have hS : va_S A s.heap s.heap [] := va_S.rf
  have hP : va_P (dC, dI) vwCl [(h0, .inr (1, [.null, .int 0, .int 0, .int 0]))] s.heap := hP
  have hl := lv_entry ([.ref h0]) (n := 1) (Nat.le_of_ble_eq_true rfl)
  rw [lg_entry_eq]
  generalize (lg_sl ([.ref h0]) ++ List.replicate (1 - (lg_sl ([.ref h0])).length) Slot.unset).toArray = ls at hl ⊢
  have hl : lv_has ls 1 [(0, .ref h0)] := hl
  refine lv_aload_n hx hb dJ4_init_da8c8_0 rfl (lv_at hl 0 rfl) ?_
  refine lv_bipush (v := 16) hx hb dJ4_init_da8c8_1 (by decide) ?_
  have hFc := va_free (wc := [(h0, .inr (1, [.null, .int 0, .int 0, .int 0]))]) hD hS hA [0] rfl
  refine va_callv (va_runI (As := [.int 16]) (rest := []) ⟨hx, hb, hml, hown, hts⟩ (c_J5_init_d00df l dC dI h0 s.heap.size) (cwI 1 hts gp_J4_init_da8c8_J5_init_d00df_1 rfl rfl rfl (hts (.initialized RJ5) (by decide +kernel)) (hts (.methodLink RJ4 1 yJ5_init_d00df) (by decide +kernel)) (hts (.instanceMethod yJ5_init_d00df) (by decide +kernel)) rfl (by decide +kernel) ⟨Nat.le_of_ble_eq_true rfl, Nat.le_of_ble_eq_true rfl⟩) ⟨Pr.blind _, fun U hU hW => ⟨rfl, Pr.at (hP.sub (ws' := [(h0, .inr (1, [.null, .int 0, .int 0, .int 0]))]) [0] rfl) (hK.sub (tys' := []) [] rfl) (hD.sub (ws' := [(h0, .inr (1, [.null, .int 0, .int 0, .int 0]))]) [0] (by decide) rfl) hN hZ hS hFc hU hW⟩⟩ rfl rfl hl.1 rfl (lv_room (Nat.le_of_ble_eq_true rfl)) dJ4_init_da8c8_3 ⟨Nat.le_of_ble_eq_true rfl, Nat.le_of_ble_eq_true rfl⟩) hS (fun q _ h => hFc q h) hFc (fun u t H1 locs ht hvm hw_2 hB hz1 hk1 hS => ?_)
  obtain ⟨hP, hD, hK⟩ := Bq.join (wr := []) hB ht hvm hP hD [0] [] rfl rfl (by decide) (by decide) hk1 hFc hK
  generalize H1 = H at hP hS ⊢
  have hP : va_P (dC, dI) vwCl [] H := hP
  have hD : va_D A [] := hD
  have hK : va_K (dC, dI) vwCl [] s := hK
  refine W.widen (k := 1) (n := 16) (by omega) (by omega) ?_
  have hP9 := hP.sub (ws' := []) [] rfl
  have hD9 := hD.sub (ws' := []) [] (by decide) rfl
  have hK9 := hK.sub (tys' := []) [] rfl
  exact W.vret hx hb hr (fun t ht hW => ⟨⟨(), rfl, trivial, by rw [ht]; exact hP9, va_K.moved hW.alike hK9, hD9⟩, hS.F ht⟩) hS.2.2 dJ4_init_da8c8_6
def wp_X6_init : List Cond := .code yX6_init cX6_init 3 none :: ([.methodLink RX6 3 objectInit, .instanceMethod objectInit, .code objectInit ⟨#[0xb1]⟩ 1 none, .fieldLink RX6 9 "RecordBench$TextReader" "tape" "LRecordBench$Row;", .fieldLink RX6 15 "RecordBench$TextReader" "makes" "[LRecordBench$Make;", .classLink RX6 19 RJ4, .instantiable RJ4 4, .initialized RJ4, .instanceMethod yJ4_init_da8c8, .methodLink RX6 21 yJ4_init_da8c8, .fieldLink RX6 22 "RecordBench$TextReader" "letters" "Ljava/lang/StringBuilder;", .fieldLink RX6 26 "RecordBench$TextReader" "pos" "I", .fieldLink RX6 30 "RecordBench$TextReader" "fault" "I", .fieldLink RX6 33 "RecordBench$TextReader" "place" "I", .code yJ4_init_da8c8 cJ4_init_da8c8 1 none, .instanceMethod yJ5_init_d00df, .initialized RJ5, .methodLink RJ4 1 yJ5_init_d00df, .code yJ5_init_d00df cJ5_init_d00df 2 none, .methodLink RJ5 3 objectInit, .fieldLink RJ5 18 "java/lang/String" "COMPACT_STRINGS" "Z", .arrayClass .byte, .fieldLink RJ5 15 "java/lang/AbstractStringBuilder" "value" "[B", .fieldLink RJ5 22 "java/lang/AbstractStringBuilder" "coder" "B"] ++ wsX60 ++ wsJ40)
set_option maxRecDepth 20000 in
theorem gp_X6_init_J4_init_da8c8_21 : GoodIn wp_X6_init (wp_J4_init_da8c8) := goodIn_p _ [15, 19, 3] rfl (by decide +kernel)
set_option maxHeartbeats 4000000 in
set_option maxRecDepth 100000 in
theorem c_X6_init (l : Launch) (dC : Nat → ClassId) (dI : Nat → Nat → Nat) (h0 : Nat) (t0 : Nat) (m0 : Nat) (sz : Nat) : Met l yX6_init wp_X6_init ({ frames := 3, cells := 2, slots := 20, locals := 65 }) (va_Pc [.ref h0, .ref t0, .ref m0] (Pr (dC, dI) [] [(h0, .inr (8, [.null, .null, .null, .int 0, .int 0, .int 0]))] sz)) (va_Qv (fun (sb : Nat) => True) (Bq (dC, dI) (fun (sb : Nat) => [(h0, .inr (8, [.ref t0, .ref m0, .ref sb, .int 0, .int 0, .int ((-1))]))]) (fun (sb : Nat) => []) (va_A [(h0, .inr (8, [.null, .null, .null, .int 0, .int 0, .int 0]))] sz)) (va_A [(h0, .inr (8, [.null, .null, .null, .int 0, .int 0, .int 0]))] sz)) 2 20 (va_A [(h0, .inr (8, [.null, .null, .null, .int 0, .int 0, .int 0]))] sz) := by
  refine Met.ofW (cc := cX6_init) (maxL := 3) (ret := none) (by decide) rfl ?_
  intro p e s m args below meth c s₁ B hml hv
  obtain ⟨rfl, hsz, hP, hK, hD0, hN, hZ⟩ := hv
  have hx := B.exec
  have hb := B.bytes
  have hr := B.returns
  have hts := atoms_spec (ws := wp_X6_init) B.pre
  have hown : s.vm.findClass RX6 = some m.cls := findClass_of_methodNamed B.named
  have hlocks := B.notSynchronized
  have hin : meth.name = "<init>" := (name_of_methodNamed B.named B.method).1
  have iRX6 : ∀ w ∈ u_ws RX6 TX6 6, w ∈ wp_X6_init := by decide +kernel
  have iRJ4 : ∀ w ∈ u_ws RJ4 TJ4 4, w ∈ wp_X6_init := by decide +kernel
  subst hsz
  have hD := hD0.self (sz := s.heap.size)
  generalize hAe : va_A [(h0, .inr (8, [.null, .null, .null, .int 0, .int 0, .int 0]))] s.heap.size = A at hD hZ ⊢
  have hA : ∀ q : Nat, s.heap.size ≤ q → A q := fun q h => by rw [← hAe]; exact Or.inr h
  have hS : va_S A s.heap s.heap [] := va_S.rf
  have hP : va_P (dC, dI) vwCl [(h0, .inr (8, [.null, .null, .null, .int 0, .int 0, .int 0]))] s.heap := hP
  have hl := lv_entry ([.ref h0, .ref t0, .ref m0]) (n := 3) (Nat.le_of_ble_eq_true rfl)
  rw [lg_entry_eq]
  generalize (lg_sl ([.ref h0, .ref t0, .ref m0]) ++ List.replicate (3 - (lg_sl ([.ref h0, .ref t0, .ref m0])).length) Slot.unset).toArray = ls at hl ⊢
  have hl : lv_has ls 3 [(0, .ref h0), (1, .ref t0), (2, .ref m0)] := hl
  refine lv_aload_n hx hb dX6_init_0 rfl (lv_at hl 0 rfl) ?_
  refine W.objInit hx hb hown (hts (.methodLink RX6 3 objectInit) (by decide +kernel)) (hts (.instanceMethod objectInit) (by decide +kernel)) (hts (.code objectInit ⟨#[0xb1]⟩ 1 none) (by decide +kernel)) rfl (by rw [hml]; exact hl.1) rfl dX6_init_1 (Nat.le_of_ble_eq_true rfl) (Nat.le_of_ble_eq_true rfl) ?_
  refine W.eq (g2 := F0 m 4 ls []) rfl ?_
  refine lv_aload_n hx hb dX6_init_4 rfl (lv_at hl 0 rfl) ?_
  refine lv_aload_n hx hb dX6_init_5 rfl (lv_at hl 1 rfl) ?_
  refine va_putF (D := (dC, dI)) (ci := 8) (v := .ref t0) (ty := (.object "RecordBench$Row")) (C := RX6) (T := TX6) (N := 6) hx hb hts iRX6 tyX6 tyX6_ok nmX6 hown hK hP hD hS 0 rfl rfl 0 (by decide) (hts (.fieldLink RX6 9 "RecordBench$TextReader" "tape" "LRecordBench$Row;") (by decide +kernel)) (fun _ h9 => h9) rfl hin rfl (by decide +kernel) rfl rfl (Nat.le_of_ble_eq_true rfl) dX6_init_6 (fun H locs hP hD hS => ?_)
  have hP : va_P (dC, dI) vwCl [(h0, .inr (8, [.ref t0, .null, .null, .int 0, .int 0, .int 0]))] H := hP
  have hD : va_D A [(h0, .inr (8, [.ref t0, .null, .null, .int 0, .int 0, .int 0]))] := hD
  refine lv_aload_n hx hb dX6_init_9 rfl (lv_at hl 0 rfl) ?_
  refine lv_aload_n hx hb dX6_init_10 rfl (lv_at hl 2 rfl) ?_
  refine va_putF (D := (dC, dI)) (ci := 8) (v := .ref m0) (ty := (.array (.object "RecordBench$Make"))) (C := RX6) (T := TX6) (N := 6) hx hb hts iRX6 tyX6 tyX6_ok nmX6 hown hK hP hD hS 0 rfl rfl 1 (by decide) (hts (.fieldLink RX6 15 "RecordBench$TextReader" "makes" "[LRecordBench$Make;") (by decide +kernel)) (fun _ h9 => h9) rfl hin rfl (by decide +kernel) rfl rfl (Nat.le_of_ble_eq_true rfl) dX6_init_11 (fun H locs hP hD hS => ?_)
  have hP : va_P (dC, dI) vwCl [(h0, .inr (8, [.ref t0, .ref m0, .null, .int 0, .int 0, .int 0]))] H := hP
  have hD : va_D A [(h0, .inr (8, [.ref t0, .ref m0, .null, .int 0, .int 0, .int 0]))] := hD
  refine lv_aload_n hx hb dX6_init_14 rfl (lv_at hl 0 rfl) ?_
  refine va_new (ci := 1) (fs := [.null, .int 0, .int 0, .int 0]) (C := RJ4) (T := TJ4) (N := 4) hx hb hts iRJ4 tyJ4 tyJ4_ok hown (hts (.classLink RX6 19 RJ4) (by decide +kernel)) (hts (.instantiable RJ4 4) (by decide +kernel)) (hts (.initialized RJ4) (by decide +kernel)) hK hP hD hS hA rfl fsJ4_ok (Nat.le_of_ble_eq_true rfl) (Nat.le_of_ble_eq_true rfl) dX6_init_15 (fun q_1 H hP hD hS => ?_)
  have hP : va_P (dC, dI) vwCl [(h0, .inr (8, [.ref t0, .ref m0, .null, .int 0, .int 0, .int 0])), (q_1, .inr (1, [.null, .int 0, .int 0, .int 0]))] H := hP
  have hD : va_D A [(h0, .inr (8, [.ref t0, .ref m0, .null, .int 0, .int 0, .int 0])), (q_1, .inr (1, [.null, .int 0, .int 0, .int 0]))] := hD
  refine W.widen (k := 1) (n := 4) (by omega) (by omega) ?_
  refine lv_dup hx hb dX6_init_18 rfl ?_
  have hFc := va_free (wc := [(q_1, .inr (1, [.null, .int 0, .int 0, .int 0]))]) hD hS hA [1] rfl
  refine va_callv (va_runI (As := []) (rest := [.ref q_1, .ref h0]) ⟨hx, hb, hml, hown, hts⟩ (c_J4_init_da8c8 l dC dI q_1 H.size) (cwI 0 hts gp_X6_init_J4_init_da8c8_21 rfl rfl rfl (hts (.initialized RJ4) (by decide +kernel)) (hts (.methodLink RX6 21 yJ4_init_da8c8) (by decide +kernel)) (hts (.instanceMethod yJ4_init_da8c8) (by decide +kernel)) rfl (by decide +kernel) ⟨Nat.le_of_ble_eq_true rfl, Nat.le_of_ble_eq_true rfl⟩) ⟨Pr.blind _, fun U hU hW => ⟨rfl, Pr.at (hP.sub (ws' := [(q_1, .inr (1, [.null, .int 0, .int 0, .int 0]))]) [1] rfl) (hK.sub (tys' := []) [] rfl) (hD.sub (ws' := [(q_1, .inr (1, [.null, .int 0, .int 0, .int 0]))]) [1] (by decide) rfl) hN hZ hS hFc hU hW⟩⟩ rfl rfl hl.1 rfl (lv_room (Nat.le_of_ble_eq_true rfl)) dX6_init_19 ⟨Nat.le_of_ble_eq_true rfl, Nat.le_of_ble_eq_true rfl⟩) hS (fun q _ h => hFc q h) hFc (fun u t H1 locs ht hvm hw_3 hB hz1 hk1 hS => ?_)
  obtain ⟨hP, hD, hK⟩ := Bq.join (wr := [(h0, .inr (8, [.ref t0, .ref m0, .null, .int 0, .int 0, .int 0]))]) hB ht hvm hP hD [1] [0] rfl rfl (by decide) (by decide) hk1 hFc hK
  generalize H1 = H at hP hS ⊢
  have hP : va_P (dC, dI) vwCl [(h0, .inr (8, [.ref t0, .ref m0, .null, .int 0, .int 0, .int 0]))] H := hP
  have hD : va_D A [(h0, .inr (8, [.ref t0, .ref m0, .null, .int 0, .int 0, .int 0]))] := hD
  have hK : va_K (dC, dI) vwCl [] s := hK
  refine W.widen (k := 2) (n := 20) (by omega) (by omega) ?_
  refine va_putF (D := (dC, dI)) (ci := 8) (v := .ref q_1) (ty := (.object "java/lang/StringBuilder")) (C := RX6) (T := TX6) (N := 6) hx hb hts iRX6 tyX6 tyX6_ok nmX6 hown hK hP hD hS 0 rfl rfl 2 (by decide) (hts (.fieldLink RX6 22 "RecordBench$TextReader" "letters" "Ljava/lang/StringBuilder;") (by decide +kernel)) (fun _ h9 => h9) rfl hin rfl (by decide +kernel) rfl rfl (Nat.le_of_ble_eq_true rfl) dX6_init_22 (fun H locs hP hD hS => ?_)
  have hP : va_P (dC, dI) vwCl [(h0, .inr (8, [.ref t0, .ref m0, .ref q_1, .int 0, .int 0, .int 0]))] H := hP
  have hD : va_D A [(h0, .inr (8, [.ref t0, .ref m0, .ref q_1, .int 0, .int 0, .int 0]))] := hD
  refine lv_aload_n hx hb dX6_init_25 rfl (lv_at hl 0 rfl) ?_
  refine lv_iconst (v := 0) hx hb dX6_init_26 (by decide) ?_
  refine va_put (D := (dC, dI)) (ci := 8) (v := .int 0) (ty := .int) (C := RX6) (T := TX6) (N := 6) hx hb hts iRX6 tyX6 tyX6_ok nmX6 hown hK hP hD hS 0 rfl rfl 3 (by decide) (hts (.fieldLink RX6 26 "RecordBench$TextReader" "pos" "I") (by decide +kernel)) (fun _ h9 => h9) rfl (by decide +kernel) rfl rfl (Nat.le_of_ble_eq_true rfl) dX6_init_27 (fun H locs hP hD hS => ?_)
  have hP : va_P (dC, dI) vwCl [(h0, .inr (8, [.ref t0, .ref m0, .ref q_1, .int 0, .int 0, .int 0]))] H := hP
  have hD : va_D A [(h0, .inr (8, [.ref t0, .ref m0, .ref q_1, .int 0, .int 0, .int 0]))] := hD
  refine lv_aload_n hx hb dX6_init_30 rfl (lv_at hl 0 rfl) ?_
  refine lv_iconst (v := 0) hx hb dX6_init_31 (by decide) ?_
  refine va_put (D := (dC, dI)) (ci := 8) (v := .int 0) (ty := .int) (C := RX6) (T := TX6) (N := 6) hx hb hts iRX6 tyX6 tyX6_ok nmX6 hown hK hP hD hS 0 rfl rfl 4 (by decide) (hts (.fieldLink RX6 30 "RecordBench$TextReader" "fault" "I") (by decide +kernel)) (fun _ h9 => h9) rfl (by decide +kernel) rfl rfl (Nat.le_of_ble_eq_true rfl) dX6_init_32 (fun H locs hP hD hS => ?_)
  have hP : va_P (dC, dI) vwCl [(h0, .inr (8, [.ref t0, .ref m0, .ref q_1, .int 0, .int 0, .int 0]))] H := hP
  have hD : va_D A [(h0, .inr (8, [.ref t0, .ref m0, .ref q_1, .int 0, .int 0, .int 0]))] := hD
  refine lv_aload_n hx hb dX6_init_35 rfl (lv_at hl 0 rfl) ?_
  refine lv_iconst (v := (-1)) hx hb dX6_init_36 (by decide) ?_
  refine va_put (D := (dC, dI)) (ci := 8) (v := .int ((-1))) (ty := .int) (C := RX6) (T := TX6) (N := 6) hx hb hts iRX6 tyX6 tyX6_ok nmX6 hown hK hP hD hS 0 rfl rfl 5 (by decide) (hts (.fieldLink RX6 33 "RecordBench$TextReader" "place" "I") (by decide +kernel)) (fun _ h9 => h9) rfl (by decide +kernel) rfl rfl (Nat.le_of_ble_eq_true rfl) dX6_init_37 (fun H locs hP hD hS => ?_)
  have hP : va_P (dC, dI) vwCl [(h0, .inr (8, [.ref t0, .ref m0, .ref q_1, .int 0, .int 0, .int ((-1))]))] H := hP
  have hD : va_D A [(h0, .inr (8, [.ref t0, .ref m0, .ref q_1, .int 0, .int 0, .int ((-1))]))] := hD
  have hP9 := hP.sub (ws' := [(h0, .inr (8, [.ref t0, .ref m0, .ref q_1, .int 0, .int 0, .int ((-1))]))]) [0] rfl
  have hD9 := hD.sub (ws' := [(h0, .inr (8, [.ref t0, .ref m0, .ref q_1, .int 0, .int 0, .int ((-1))]))]) [0] (by decide) rfl
  have hK9 := hK.sub (tys' := []) [] rfl
  exact W.vret hx hb hr (fun t ht hW => ⟨⟨q_1, rfl, trivial, by rw [ht]; exact hP9, va_K.moved hW.alike hK9, hD9⟩, hS.F ht⟩) hS.2.2 dX6_init_40
def wp_X6_faultFound : List Cond := .code yX6_faultFound cX6_faultFound 1 (some .int) :: ([.fieldLink RX6 30 "RecordBench$TextReader" "fault" "I"] ++ wsX60)
set_option maxHeartbeats 4000000 in
set_option maxRecDepth 100000 in
theorem c_X6_faultFound (l : Launch) (dC : Nat → ClassId) (dI : Nat → Nat → Nat) (h0 : Nat) (t0 : Nat) (m0 : Nat) (sb : Nat) (ps : Int32) (fl : Int32) (pl : Int32) (sz : Nat) : Met l yX6_faultFound wp_X6_faultFound ({ frames := 0, cells := 0, slots := 0, locals := 0 }) (va_Pc [.ref h0] (Pr (dC, dI) [] [(h0, .inr (8, [.ref t0, .ref m0, .ref sb, .int ps, .int fl, .int pl]))] sz)) (va_Qi (fun r : Int32 => (fun _ : Unit => r = fl)) (Bq (dC, dI) (fun _ : Unit => [(h0, .inr (8, [.ref t0, .ref m0, .ref sb, .int ps, .int fl, .int pl]))]) (fun _ : Unit => []) (va_A [(h0, .inr (8, [.ref t0, .ref m0, .ref sb, .int ps, .int fl, .int pl]))] sz)) (va_A [(h0, .inr (8, [.ref t0, .ref m0, .ref sb, .int ps, .int fl, .int pl]))] sz)) 0 0 (va_A [(h0, .inr (8, [.ref t0, .ref m0, .ref sb, .int ps, .int fl, .int pl]))] sz) := by
  refine Met.ofW (cc := cX6_faultFound) (maxL := 1) (ret := (some .int)) (by decide) rfl ?_
  intro p e s m args below meth c s₁ B hml hv
  obtain ⟨rfl, hsz, hP, hK, hD0, hN, hZ⟩ := hv
  have hx := B.exec
  have hb := B.bytes
  have hr := B.returns
  have hts := atoms_spec (ws := wp_X6_faultFound) B.pre
  have hown : s.vm.findClass RX6 = some m.cls := findClass_of_methodNamed B.named
  have hlocks := B.notSynchronized
  have iRX6 : ∀ w ∈ u_ws RX6 TX6 6, w ∈ wp_X6_faultFound := by decide +kernel
  subst hsz
  have hD := hD0.self (sz := s.heap.size)
  generalize hAe : va_A [(h0, .inr (8, [.ref t0, .ref m0, .ref sb, .int ps, .int fl, .int pl]))] s.heap.size = A at hD hZ ⊢
  have hA : ∀ q : Nat, s.heap.size ≤ q → A q := fun q h => by rw [← hAe]; exact Or.inr h
  have hS : va_S A s.heap s.heap [] := va_S.rf
  have hP : va_P (dC, dI) vwCl [(h0, .inr (8, [.ref t0, .ref m0, .ref sb, .int ps, .int fl, .int pl]))] s.heap := hP
  have hl := lv_entry ([.ref h0]) (n := 1) (Nat.le_of_ble_eq_true rfl)
  rw [lg_entry_eq]
  generalize (lg_sl ([.ref h0]) ++ List.replicate (1 - (lg_sl ([.ref h0])).length) Slot.unset).toArray = ls at hl ⊢
  have hl : lv_has ls 1 [(0, .ref h0)] := hl
  refine lv_aload_n hx hb dX6_faultFound_0 rfl (lv_at hl 0 rfl) ?_
  refine va_get (D := (dC, dI)) (ci := 8) (v := .int fl) (C := RX6) (T := TX6) (N := 6) hx hb hts iRX6 hown hK hP 0 rfl rfl 4 (by decide) (hts (.fieldLink RX6 30 "RecordBench$TextReader" "fault" "I") (by decide +kernel)) (fun _ h9 => h9) rfl dX6_faultFound_1 ?_
  have hP9 := hP.sub (ws' := [(h0, .inr (8, [.ref t0, .ref m0, .ref sb, .int ps, .int fl, .int pl]))]) [0] rfl
  have hD9 := hD.sub (ws' := [(h0, .inr (8, [.ref t0, .ref m0, .ref sb, .int ps, .int fl, .int pl]))]) [0] (by decide) rfl
  have hK9 := hK.sub (tys' := []) [] rfl
  exact W.iret (v := fl) hx hb hr (fun t ht hW => ⟨⟨fl, (), rfl, rfl, by rw [ht]; exact hP9, va_K.moved hW.alike hK9, hD9⟩, hS.F ht⟩) hS.2.2 dX6_faultFound_4
def wp_X6_placeFound : List Cond := .code yX6_placeFound cX6_placeFound 1 (some .int) :: ([.fieldLink RX6 33 "RecordBench$TextReader" "place" "I"] ++ wsX60)
set_option maxHeartbeats 4000000 in
set_option maxRecDepth 100000 in
theorem c_X6_placeFound (l : Launch) (dC : Nat → ClassId) (dI : Nat → Nat → Nat) (h0 : Nat) (t0 : Nat) (m0 : Nat) (sb : Nat) (ps : Int32) (fl : Int32) (pl : Int32) (sz : Nat) : Met l yX6_placeFound wp_X6_placeFound ({ frames := 0, cells := 0, slots := 0, locals := 0 }) (va_Pc [.ref h0] (Pr (dC, dI) [] [(h0, .inr (8, [.ref t0, .ref m0, .ref sb, .int ps, .int fl, .int pl]))] sz)) (va_Qi (fun r : Int32 => (fun _ : Unit => r = pl)) (Bq (dC, dI) (fun _ : Unit => [(h0, .inr (8, [.ref t0, .ref m0, .ref sb, .int ps, .int fl, .int pl]))]) (fun _ : Unit => []) (va_A [(h0, .inr (8, [.ref t0, .ref m0, .ref sb, .int ps, .int fl, .int pl]))] sz)) (va_A [(h0, .inr (8, [.ref t0, .ref m0, .ref sb, .int ps, .int fl, .int pl]))] sz)) 0 0 (va_A [(h0, .inr (8, [.ref t0, .ref m0, .ref sb, .int ps, .int fl, .int pl]))] sz) := by
  refine Met.ofW (cc := cX6_placeFound) (maxL := 1) (ret := (some .int)) (by decide) rfl ?_
  intro p e s m args below meth c s₁ B hml hv
  obtain ⟨rfl, hsz, hP, hK, hD0, hN, hZ⟩ := hv
  have hx := B.exec
  have hb := B.bytes
  have hr := B.returns
  have hts := atoms_spec (ws := wp_X6_placeFound) B.pre
  have hown : s.vm.findClass RX6 = some m.cls := findClass_of_methodNamed B.named
  have hlocks := B.notSynchronized
  have iRX6 : ∀ w ∈ u_ws RX6 TX6 6, w ∈ wp_X6_placeFound := by decide +kernel
  subst hsz
  have hD := hD0.self (sz := s.heap.size)
  generalize hAe : va_A [(h0, .inr (8, [.ref t0, .ref m0, .ref sb, .int ps, .int fl, .int pl]))] s.heap.size = A at hD hZ ⊢
  have hA : ∀ q : Nat, s.heap.size ≤ q → A q := fun q h => by rw [← hAe]; exact Or.inr h
  have hS : va_S A s.heap s.heap [] := va_S.rf
  have hP : va_P (dC, dI) vwCl [(h0, .inr (8, [.ref t0, .ref m0, .ref sb, .int ps, .int fl, .int pl]))] s.heap := hP
  have hl := lv_entry ([.ref h0]) (n := 1) (Nat.le_of_ble_eq_true rfl)
  rw [lg_entry_eq]
  generalize (lg_sl ([.ref h0]) ++ List.replicate (1 - (lg_sl ([.ref h0])).length) Slot.unset).toArray = ls at hl ⊢
  have hl : lv_has ls 1 [(0, .ref h0)] := hl
  refine lv_aload_n hx hb dX6_placeFound_0 rfl (lv_at hl 0 rfl) ?_
  refine va_get (D := (dC, dI)) (ci := 8) (v := .int pl) (C := RX6) (T := TX6) (N := 6) hx hb hts iRX6 hown hK hP 0 rfl rfl 5 (by decide) (hts (.fieldLink RX6 33 "RecordBench$TextReader" "place" "I") (by decide +kernel)) (fun _ h9 => h9) rfl dX6_placeFound_1 ?_
  have hP9 := hP.sub (ws' := [(h0, .inr (8, [.ref t0, .ref m0, .ref sb, .int ps, .int fl, .int pl]))]) [0] rfl
  have hD9 := hD.sub (ws' := [(h0, .inr (8, [.ref t0, .ref m0, .ref sb, .int ps, .int fl, .int pl]))]) [0] (by decide) rfl
  have hK9 := hK.sub (tys' := []) [] rfl
  exact W.iret (v := pl) hx hb hr (fun t ht hW => ⟨⟨pl, (), rfl, rfl, by rw [ht]; exact hP9, va_K.moved hW.alike hK9, hD9⟩, hS.F ht⟩) hS.2.2 dX6_placeFound_4
def wp_X6_skipBlanks : List Cond := .code yX6_skipBlanks cX6_skipBlanks 3 none :: ([.fieldLink RX6 26 "RecordBench$TextReader" "pos" "I", .fieldLink RX6 9 "RecordBench$TextReader" "tape" "LRecordBench$Row;", .methodLink RX6 42 yX5_size, .instanceMethod yX5_size, .selects RX5 yX5_size yX5_size, .initialized RX5, .code yX5_size cX5_size 1 (some .int), .fieldLink RX5 21 "RecordBench$Row" "size" "I"] ++ wsX60 ++ wsX50)
set_option maxRecDepth 20000 in
theorem gp_X6_skipBlanks_X5_size_42 : GoodIn wp_X6_skipBlanks (wsV RX6 42 RX5 yX5_size wp_X5_size) := goodIn_p _ [7] rfl (by decide +kernel)
set_option maxHeartbeats 4000000 in
set_option maxRecDepth 100000 in
theorem c_X6_skipBlanks (l : Launch) (dC : Nat → ClassId) (dI : Nat → Nat → Nat) (h0 : Nat) (t0 : Nat) (m0 : Nat) (sb : Nat) (tb : Nat) (fl : Int32) (pl : Int32) (sz : Nat) : Met l yX6_skipBlanks wp_X6_skipBlanks ({ frames := 1, cells := 0, slots := 0, locals := 24 }) (va_Pc [.ref h0] (Pr (dC, dI) [] [(h0, .inr (8, [.ref t0, .ref m0, .ref sb, .int 0, .int fl, .int pl])), (t0, .inr (7, [.ref tb, .int 0]))] sz)) (va_Qv (fun _ : Unit => True) (Bq (dC, dI) (fun _ : Unit => [(h0, .inr (8, [.ref t0, .ref m0, .ref sb, .int 0, .int fl, .int pl])), (t0, .inr (7, [.ref tb, .int 0]))]) (fun _ : Unit => []) (va_A [(h0, .inr (8, [.ref t0, .ref m0, .ref sb, .int 0, .int fl, .int pl])), (t0, .inr (7, [.ref tb, .int 0]))] sz)) (va_A [(h0, .inr (8, [.ref t0, .ref m0, .ref sb, .int 0, .int fl, .int pl])), (t0, .inr (7, [.ref tb, .int 0]))] sz)) 0 0 (va_A [(h0, .inr (8, [.ref t0, .ref m0, .ref sb, .int 0, .int fl, .int pl])), (t0, .inr (7, [.ref tb, .int 0]))] sz) := by
  refine Met.ofW (cc := cX6_skipBlanks) (maxL := 3) (ret := none) (by decide) rfl ?_
  intro p e s m args below meth c s₁ B hml hv
  obtain ⟨rfl, hsz, hP, hK, hD0, hN, hZ⟩ := hv
  have hx := B.exec
  have hb := B.bytes
  have hr := B.returns
  have hts := atoms_spec (ws := wp_X6_skipBlanks) B.pre
  have hown : s.vm.findClass RX6 = some m.cls := findClass_of_methodNamed B.named
  have hlocks := B.notSynchronized
  have iRX6 : ∀ w ∈ u_ws RX6 TX6 6, w ∈ wp_X6_skipBlanks := by decide +kernel
  subst hsz
  have hD := hD0.self (sz := s.heap.size)
  generalize hAe : va_A [(h0, .inr (8, [.ref t0, .ref m0, .ref sb, .int 0, .int fl, .int pl])), (t0, .inr (7, [.ref tb, .int 0]))] s.heap.size = A at hD hZ ⊢
  have hA : ∀ q : Nat, s.heap.size ≤ q → A q := fun q h => by rw [← hAe]; exact Or.inr h
  have hS : va_S A s.heap s.heap [] := va_S.rf
  have hP : va_P (dC, dI) vwCl [(h0, .inr (8, [.ref t0, .ref m0, .ref sb, .int 0, .int fl, .int pl])), (t0, .inr (7, [.ref tb, .int 0]))] s.heap := hP
  have hl := lv_entry ([.ref h0]) (n := 3) (Nat.le_of_ble_eq_true rfl)
  rw [lg_entry_eq]
  generalize (lg_sl ([.ref h0]) ++ List.replicate (3 - (lg_sl ([.ref h0])).length) Slot.unset).toArray = ls at hl ⊢
  have hl : lv_has ls 3 [(0, .ref h0)] := hl
  refine lv_aload_n hx hb dX6_skipBlanks_0 rfl (lv_at hl 0 rfl) ?_
  refine va_get (D := (dC, dI)) (ci := 8) (v := .int 0) (C := RX6) (T := TX6) (N := 6) hx hb hts iRX6 hown hK hP 0 rfl rfl 3 (by decide) (hts (.fieldLink RX6 26 "RecordBench$TextReader" "pos" "I") (by decide +kernel)) (fun _ h9 => h9) rfl dX6_skipBlanks_1 ?_
  refine lv_istore_n (lv' := [(1, .int 0), (0, .ref h0)]) hx hb dX6_skipBlanks_4 rfl hl (by decide) rfl (fun ls hl => ?_)
  refine lv_iload_n hx hb dX6_skipBlanks_5 rfl (lv_at hl 0 rfl) ?_
  refine lv_istore_n (lv' := [(2, .int 0), (1, .int 0), (0, .ref h0)]) hx hb dX6_skipBlanks_6 rfl hl (by decide) rfl (fun ls hl => ?_)
  refine lv_iload_n hx hb dX6_skipBlanks_7 rfl (lv_at hl 0 rfl) ?_
  refine lv_aload_n hx hb dX6_skipBlanks_8 rfl (lv_at hl 2 rfl) ?_
  refine va_get (D := (dC, dI)) (ci := 8) (v := .ref t0) (C := RX6) (T := TX6) (N := 6) hx hb hts iRX6 hown hK hP 0 rfl rfl 0 (by decide) (hts (.fieldLink RX6 9 "RecordBench$TextReader" "tape" "LRecordBench$Row;") (by decide +kernel)) (fun _ h9 => h9) rfl dX6_skipBlanks_9 ?_
  have hFc := va_free (wc := [(t0, .inr (7, [.ref tb, .int 0]))]) hD hS hA [1] rfl
  refine va_calli (va_runV (As := []) (rest := [.int 0]) ⟨hx, hb, hml, hown, hts⟩ (c_X5_size l dC dI t0 tb 0 s.heap.size) (cwV 0 hts gp_X6_skipBlanks_X5_size_42 rfl rfl rfl (by decide +kernel) ⟨Nat.le_of_ble_eq_true rfl, Nat.le_of_ble_eq_true rfl⟩) ⟨Pr.blind _, va_recv hK hP (ci := 7) (q0 := 1) rfl rfl, fun U hU hW => ⟨rfl, Pr.at (hP.sub (ws' := [(t0, .inr (7, [.ref tb, .int 0]))]) [1] rfl) (hK.sub (tys' := []) [] rfl) (hD.sub (ws' := [(t0, .inr (7, [.ref tb, .int 0]))]) [1] (by decide) rfl) hN hZ hS hFc hU hW⟩⟩ rfl rfl hl.1 rfl (lv_room (Nat.le_of_ble_eq_true rfl)) dX6_skipBlanks_12 ⟨Nat.le_of_ble_eq_true rfl, Nat.le_of_ble_eq_true rfl⟩) hS (fun q _ h => hFc q h) hFc (fun r_1 u t H1 locs ht hvm hw_2 hB hz1 hk1 hS => ?_)
  obtain ⟨hP, hD, hK⟩ := Bq.join (wr := [(h0, .inr (8, [.ref t0, .ref m0, .ref sb, .int 0, .int fl, .int pl]))]) hB ht hvm hP hD [1] [0] rfl rfl (by decide) (by decide) hk1 hFc hK
  generalize H1 = H at hP hS ⊢
  have hP : va_P (dC, dI) vwCl [(h0, .inr (8, [.ref t0, .ref m0, .ref sb, .int 0, .int fl, .int pl])), (t0, .inr (7, [.ref tb, .int 0]))] H := hP
  have hD : va_D A [(h0, .inr (8, [.ref t0, .ref m0, .ref sb, .int 0, .int fl, .int pl])), (t0, .inr (7, [.ref tb, .int 0]))] := hD
  have hK : va_K (dC, dI) vwCl [] s := hK
  try dsimp only at hw_2
  have k_3 := hw_2
  refine W_toi (y := 0) k_3 ?_
  refine lv_icmp_ge (tgt := 48) hx hb dX6_skipBlanks_15 (by decide) (fun c_4 => ?_) (fun c_4 => absurd (by decide) c_4)
  have hP9 := hP.sub (ws' := [(h0, .inr (8, [.ref t0, .ref m0, .ref sb, .int 0, .int fl, .int pl])), (t0, .inr (7, [.ref tb, .int 0]))]) [0, 1] rfl
  have hD9 := hD.sub (ws' := [(h0, .inr (8, [.ref t0, .ref m0, .ref sb, .int 0, .int fl, .int pl])), (t0, .inr (7, [.ref tb, .int 0]))]) [0, 1] (by decide) rfl
  have hK9 := hK.sub (tys' := []) [] rfl
  exact W.vret hx hb hr (fun t ht hW => ⟨⟨(), rfl, trivial, by rw [ht]; exact hP9, va_K.moved hW.alike hK9, hD9⟩, hS.F ht⟩) hS.2.2 dX6_skipBlanks_48
def wp_X6_tell : List Cond := .code yX6_tell cX6_tell 4 (some (.object "RecordBench$Make")) :: ([.fieldLink RX6 26 "RecordBench$TextReader" "pos" "I", .fieldLink RX6 30 "RecordBench$TextReader" "fault" "I", .fieldLink RX6 33 "RecordBench$TextReader" "place" "I", .classLink RX6 36 RX1, .instantiable RX1 2, .initialized RX1, .instanceMethod yX1_init, .methodLink RX6 39 yX6_skipBlanks, .instanceMethod yX6_skipBlanks, .selects RX6 yX6_skipBlanks yX6_skipBlanks, .initialized RX6, .fieldLink RX6 9 "RecordBench$TextReader" "tape" "LRecordBench$Row;", .methodLink RX6 42 yX5_size, .instanceMethod yX5_size, .selects RX5 yX5_size yX5_size, .initialized RX5, .code yX1_init cX1_init 1 none, .methodLink RX1 3 objectInit, .instanceMethod objectInit, .code objectInit ⟨#[0xb1]⟩ 1 none, .classLink RX1 9 RX0, .fieldLink RX1 11 "RecordBench$Make" "fields" "[LRecordBench$Field;", .fieldLink RX1 17 "RecordBench$Make" "count" "I", .code yX6_skipBlanks cX6_skipBlanks 3 none, .code yX5_size cX5_size 1 (some .int), .fieldLink RX5 21 "RecordBench$Row" "size" "I"] ++ wsX60 ++ wsX10 ++ wsX50)
set_option maxRecDepth 20000 in
theorem gp_X6_tell_X1_init_38 : GoodIn wp_X6_tell (wp_X1_init) := goodIn_p _ [17, 20] rfl (by decide +kernel)
set_option maxRecDepth 20000 in
theorem gp_X6_tell_X6_skipBlanks_39 : GoodIn wp_X6_tell (wsV RX6 39 RX6 yX6_skipBlanks wp_X6_skipBlanks) := goodIn_p _ [24, 25] rfl (by decide +kernel)
set_option maxRecDepth 20000 in
theorem gp_X6_tell_X5_size_42 : GoodIn wp_X6_tell (wsV RX6 42 RX5 yX5_size wp_X5_size) := goodIn_p _ [25] rfl (by decide +kernel)
set_option maxHeartbeats 4000000 in
set_option maxRecDepth 100000 in
theorem c_X6_tell (l : Launch) (dC : Nat → ClassId) (dI : Nat → Nat → Nat) (h0 : Nat) (t0 : Nat) (m0 : Nat) (sb : Nat) (tb : Nat) (ps : Int32) (fl : Int32) (pl : Int32) (p0 : Int32) (sz : Nat) : Met l yX6_tell wp_X6_tell ({ frames := 2, cells := 2, slots := 33, locals := 50 }) (va_Pc [.ref h0, .int p0] (Pr (dC, dI) [] [(h0, .inr (8, [.ref t0, .ref m0, .ref sb, .int ps, .int fl, .int pl])), (t0, .inr (7, [.ref tb, .int 0]))] sz)) (va_Qq (fun r : Option Nat => (fun (u : Nat × Nat) => match u with | (a, q) => r = some a)) (Bq (dC, dI) (fun (u : Nat × Nat) => match u with | (a, q) => [(h0, .inr (8, [.ref t0, .ref m0, .ref sb, .int 0, .int 0, .int ((-1))])), (t0, .inr (7, [.ref tb, .int 0])), (a, .inr (3, [.ref q, .int 0]))]) (fun (u : Nat × Nat) => match u with | (a, q) => []) (va_A [(h0, .inr (8, [.ref t0, .ref m0, .ref sb, .int ps, .int fl, .int pl])), (t0, .inr (7, [.ref tb, .int 0]))] sz)) (va_A [(h0, .inr (8, [.ref t0, .ref m0, .ref sb, .int ps, .int fl, .int pl])), (t0, .inr (7, [.ref tb, .int 0]))] sz)) 2 33 (va_A [(h0, .inr (8, [.ref t0, .ref m0, .ref sb, .int ps, .int fl, .int pl])), (t0, .inr (7, [.ref tb, .int 0]))] sz) := by
  refine Met.ofW (cc := cX6_tell) (maxL := 4) (ret := (some (.object "RecordBench$Make"))) (by decide) rfl ?_
  intro p e s m args below meth c s₁ B hml hv
  obtain ⟨rfl, hsz, hP, hK, hD0, hN, hZ⟩ := hv
  have hx := B.exec
  have hb := B.bytes
  have hr := B.returns
  have hts := atoms_spec (ws := wp_X6_tell) B.pre
  have hown : s.vm.findClass RX6 = some m.cls := findClass_of_methodNamed B.named
  have hlocks := B.notSynchronized
  have iRX6 : ∀ w ∈ u_ws RX6 TX6 6, w ∈ wp_X6_tell := by decide +kernel
  have iRX1 : ∀ w ∈ u_ws RX1 TX1 2, w ∈ wp_X6_tell := by decide +kernel
  subst hsz
  have hD := hD0.self (sz := s.heap.size)
  generalize hAe : va_A [(h0, .inr (8, [.ref t0, .ref m0, .ref sb, .int ps, .int fl, .int pl])), (t0, .inr (7, [.ref tb, .int 0]))] s.heap.size = A at hD hZ ⊢
  have hA : ∀ q : Nat, s.heap.size ≤ q → A q := fun q h => by rw [← hAe]; exact Or.inr h
  have hS : va_S A s.heap s.heap [] := va_S.rf
  have hP : va_P (dC, dI) vwCl [(h0, .inr (8, [.ref t0, .ref m0, .ref sb, .int ps, .int fl, .int pl])), (t0, .inr (7, [.ref tb, .int 0]))] s.heap := hP
  have hl := lv_entry ([.ref h0, .int p0]) (n := 4) (Nat.le_of_ble_eq_true rfl)
  rw [lg_entry_eq]
  generalize (lg_sl ([.ref h0, .int p0]) ++ List.replicate (4 - (lg_sl ([.ref h0, .int p0])).length) Slot.unset).toArray = ls at hl ⊢
  have hl : lv_has ls 4 [(0, .ref h0), (1, .int p0)] := hl
  refine lv_aload_n hx hb dX6_tell_0 rfl (lv_at hl 0 rfl) ?_
  refine lv_iconst (v := 0) hx hb dX6_tell_1 (by decide) ?_
  refine va_put (D := (dC, dI)) (ci := 8) (v := .int 0) (ty := .int) (C := RX6) (T := TX6) (N := 6) hx hb hts iRX6 tyX6 tyX6_ok nmX6 hown hK hP hD hS 0 rfl rfl 3 (by decide) (hts (.fieldLink RX6 26 "RecordBench$TextReader" "pos" "I") (by decide +kernel)) (fun _ h9 => h9) rfl (by decide +kernel) rfl rfl (Nat.le_of_ble_eq_true rfl) dX6_tell_2 (fun H locs hP hD hS => ?_)
  have hP : va_P (dC, dI) vwCl [(h0, .inr (8, [.ref t0, .ref m0, .ref sb, .int 0, .int fl, .int pl])), (t0, .inr (7, [.ref tb, .int 0]))] H := hP
  have hD : va_D A [(h0, .inr (8, [.ref t0, .ref m0, .ref sb, .int 0, .int fl, .int pl])), (t0, .inr (7, [.ref tb, .int 0]))] := hD
  refine lv_aload_n hx hb dX6_tell_5 rfl (lv_at hl 0 rfl) ?_
  refine lv_iconst (v := 0) hx hb dX6_tell_6 (by decide) ?_
  refine va_put (D := (dC, dI)) (ci := 8) (v := .int 0) (ty := .int) (C := RX6) (T := TX6) (N := 6) hx hb hts iRX6 tyX6 tyX6_ok nmX6 hown hK hP hD hS 0 rfl rfl 4 (by decide) (hts (.fieldLink RX6 30 "RecordBench$TextReader" "fault" "I") (by decide +kernel)) (fun _ h9 => h9) rfl (by decide +kernel) rfl rfl (Nat.le_of_ble_eq_true rfl) dX6_tell_7 (fun H locs hP hD hS => ?_)
  have hP : va_P (dC, dI) vwCl [(h0, .inr (8, [.ref t0, .ref m0, .ref sb, .int 0, .int 0, .int pl])), (t0, .inr (7, [.ref tb, .int 0]))] H := hP
  have hD : va_D A [(h0, .inr (8, [.ref t0, .ref m0, .ref sb, .int 0, .int 0, .int pl])), (t0, .inr (7, [.ref tb, .int 0]))] := hD
  refine lv_aload_n hx hb dX6_tell_10 rfl (lv_at hl 0 rfl) ?_
  refine lv_iconst (v := (-1)) hx hb dX6_tell_11 (by decide) ?_
  refine va_put (D := (dC, dI)) (ci := 8) (v := .int ((-1))) (ty := .int) (C := RX6) (T := TX6) (N := 6) hx hb hts iRX6 tyX6 tyX6_ok nmX6 hown hK hP hD hS 0 rfl rfl 5 (by decide) (hts (.fieldLink RX6 33 "RecordBench$TextReader" "place" "I") (by decide +kernel)) (fun _ h9 => h9) rfl (by decide +kernel) rfl rfl (Nat.le_of_ble_eq_true rfl) dX6_tell_12 (fun H locs hP hD hS => ?_)
  have hP : va_P (dC, dI) vwCl [(h0, .inr (8, [.ref t0, .ref m0, .ref sb, .int 0, .int 0, .int ((-1))])), (t0, .inr (7, [.ref tb, .int 0]))] H := hP
  have hD : va_D A [(h0, .inr (8, [.ref t0, .ref m0, .ref sb, .int 0, .int 0, .int ((-1))])), (t0, .inr (7, [.ref tb, .int 0]))] := hD
  refine va_new (ci := 3) (fs := [.null, .int 0]) (C := RX1) (T := TX1) (N := 2) hx hb hts iRX1 tyX1 tyX1_ok hown (hts (.classLink RX6 36 RX1) (by decide +kernel)) (hts (.instantiable RX1 2) (by decide +kernel)) (hts (.initialized RX1) (by decide +kernel)) hK hP hD hS hA rfl fsX1_ok (Nat.le_of_ble_eq_true rfl) (Nat.le_of_ble_eq_true rfl) dX6_tell_15 (fun q_1 H hP hD hS => ?_)
  have hP : va_P (dC, dI) vwCl [(h0, .inr (8, [.ref t0, .ref m0, .ref sb, .int 0, .int 0, .int ((-1))])), (t0, .inr (7, [.ref tb, .int 0])), (q_1, .inr (3, [.null, .int 0]))] H := hP
  have hD : va_D A [(h0, .inr (8, [.ref t0, .ref m0, .ref sb, .int 0, .int 0, .int ((-1))])), (t0, .inr (7, [.ref tb, .int 0])), (q_1, .inr (3, [.null, .int 0]))] := hD
  refine W.widen (k := 1) (n := 2) (by omega) (by omega) ?_
  refine lv_dup hx hb dX6_tell_18 rfl ?_
  have hFc := va_free (wc := [(q_1, .inr (3, [.null, .int 0]))]) hD hS hA [2] rfl
  refine va_callv (va_runIN (As := []) (rest := [.ref q_1]) ⟨hx, hb, hml, hown, hts⟩ (c_X1_init l dC dI q_1 H.size) ⟨va_cnB 0 hts gp_X6_tell_X1_init_38 rfl rfl rfl hN.2.2.1 (hts (.initialized RX1) (by decide +kernel)) (by decide +kernel) ⟨Nat.le_of_ble_eq_true rfl, Nat.le_of_ble_eq_true rfl⟩, rfl, (hts (.instanceMethod yX1_init) (by decide +kernel))⟩ ⟨Pr.blind _, fun U hU hW => ⟨rfl, Pr.at (hP.sub (ws' := [(q_1, .inr (3, [.null, .int 0]))]) [2] rfl) (hK.sub (tys' := []) [] rfl) (hD.sub (ws' := [(q_1, .inr (3, [.null, .int 0]))]) [2] (by decide) rfl) hN hZ hS hFc hU hW⟩⟩ rfl rfl hl.1 rfl (lv_room (Nat.le_of_ble_eq_true rfl)) dX6_tell_19 ⟨Nat.le_of_ble_eq_true rfl, Nat.le_of_ble_eq_true rfl⟩) hS (fun q _ h => hFc q h) hFc (fun u t H1 locs ht hvm hw_3 hB hz1 hk1 hS => ?_)
  obtain ⟨q_4, rfl⟩ : ∃ z, z = u := ⟨_, rfl⟩
  obtain ⟨hP, hD, hK⟩ := Bq.join (wr := [(h0, .inr (8, [.ref t0, .ref m0, .ref sb, .int 0, .int 0, .int ((-1))])), (t0, .inr (7, [.ref tb, .int 0]))]) hB ht hvm hP hD [2] [0, 1] rfl rfl (by decide) (by decide) hk1 hFc hK
  generalize H1 = H at hP hS ⊢
  have hP : va_P (dC, dI) vwCl [(h0, .inr (8, [.ref t0, .ref m0, .ref sb, .int 0, .int 0, .int ((-1))])), (t0, .inr (7, [.ref tb, .int 0])), (q_1, .inr (3, [.ref q_4, .int 0]))] H := hP
  have hD : va_D A [(h0, .inr (8, [.ref t0, .ref m0, .ref sb, .int 0, .int 0, .int ((-1))])), (t0, .inr (7, [.ref tb, .int 0])), (q_1, .inr (3, [.ref q_4, .int 0]))] := hD
  have hK : va_K (dC, dI) vwCl [] s := hK
  refine W.widen (k := 2) (n := 33) (by omega) (by omega) ?_
  refine lv_astore_n (lv' := [(2, .ref q_1), (0, .ref h0), (1, .int p0)]) hx hb dX6_tell_22 rfl hl (by decide) rfl (fun ls hl => ?_)
  refine lv_iconst (v := 0) hx hb dX6_tell_23 (by decide) ?_
  refine lv_istore_n (lv' := [(3, .int 0), (2, .ref q_1), (0, .ref h0), (1, .int p0)]) hx hb dX6_tell_24 rfl hl (by decide) rfl (fun ls hl => ?_)
  refine lv_iload_n hx hb dX6_tell_25 rfl (lv_at hl 0 rfl) ?_
  refine lv_bipush (v := 10) hx hb dX6_tell_26 (by decide) ?_
  refine lv_icmp_gt (tgt := 90) hx hb dX6_tell_28 (by decide) (fun c_5 => absurd c_5 (by decide)) (fun c_5 => ?_)
  refine lv_aload_n hx hb dX6_tell_31 rfl (lv_at hl 2 rfl) ?_
  refine va_get (D := (dC, dI)) (ci := 8) (v := .int 0) (C := RX6) (T := TX6) (N := 6) hx hb hts iRX6 hown hK hP 0 rfl rfl 4 (by decide) (hts (.fieldLink RX6 30 "RecordBench$TextReader" "fault" "I") (by decide +kernel)) (fun _ h9 => h9) rfl dX6_tell_32 ?_
  refine lv_if_ne (tgt := 90) hx hb dX6_tell_35 (by decide) (fun c_6 => absurd (by decide) c_6) (fun c_6 => ?_)
  refine lv_aload_n hx hb dX6_tell_38 rfl (lv_at hl 2 rfl) ?_
  have hFc := va_free (wc := [(h0, .inr (8, [.ref t0, .ref m0, .ref sb, .int 0, .int 0, .int ((-1))])), (t0, .inr (7, [.ref tb, .int 0]))]) hD hS hA [0, 1] rfl
  refine va_callv (va_runV (As := []) (rest := []) ⟨hx, hb, hml, hown, hts⟩ (c_X6_skipBlanks l dC dI h0 t0 m0 sb tb 0 (-1) H.size) (cwV 0 hts gp_X6_tell_X6_skipBlanks_39 rfl rfl rfl (by decide +kernel) ⟨Nat.le_of_ble_eq_true rfl, Nat.le_of_ble_eq_true rfl⟩) ⟨Pr.blind _, va_recv hK hP (ci := 8) (q0 := 0) rfl rfl, fun U hU hW => ⟨rfl, Pr.at (hP.sub (ws' := [(h0, .inr (8, [.ref t0, .ref m0, .ref sb, .int 0, .int 0, .int ((-1))])), (t0, .inr (7, [.ref tb, .int 0]))]) [0, 1] rfl) (hK.sub (tys' := []) [] rfl) (hD.sub (ws' := [(h0, .inr (8, [.ref t0, .ref m0, .ref sb, .int 0, .int 0, .int ((-1))])), (t0, .inr (7, [.ref tb, .int 0]))]) [0, 1] (by decide) rfl) hN hZ hS hFc hU hW⟩⟩ rfl rfl hl.1 rfl (lv_room (Nat.le_of_ble_eq_true rfl)) dX6_tell_39 ⟨Nat.le_of_ble_eq_true rfl, Nat.le_of_ble_eq_true rfl⟩) hS (fun q _ h => hFc q h) hFc (fun u t H1 locs ht hvm hw_8 hB hz1 hk1 hS => ?_)
  obtain ⟨hP, hD, hK⟩ := Bq.join (wr := [(q_1, .inr (3, [.ref q_4, .int 0]))]) hB ht hvm hP hD [0, 1] [2] rfl rfl (by decide) (by decide) hk1 hFc hK
  generalize H1 = H at hP hS ⊢
  have hP : va_P (dC, dI) vwCl [(q_1, .inr (3, [.ref q_4, .int 0])), (h0, .inr (8, [.ref t0, .ref m0, .ref sb, .int 0, .int 0, .int (-1)])), (t0, .inr (7, [.ref tb, .int 0]))] H := hP
  have hD : va_D A [(q_1, .inr (3, [.ref q_4, .int 0])), (h0, .inr (8, [.ref t0, .ref m0, .ref sb, .int 0, .int 0, .int (-1)])), (t0, .inr (7, [.ref tb, .int 0]))] := hD
  have hK : va_K (dC, dI) vwCl [] s := hK
  refine lv_aload_n hx hb dX6_tell_42 rfl (lv_at hl 2 rfl) ?_
  refine va_get (D := (dC, dI)) (ci := 8) (v := .int 0) (C := RX6) (T := TX6) (N := 6) hx hb hts iRX6 hown hK hP 1 rfl rfl 3 (by decide) (hts (.fieldLink RX6 26 "RecordBench$TextReader" "pos" "I") (by decide +kernel)) (fun _ h9 => h9) rfl dX6_tell_43 ?_
  refine lv_aload_n hx hb dX6_tell_46 rfl (lv_at hl 2 rfl) ?_
  refine va_get (D := (dC, dI)) (ci := 8) (v := .ref t0) (C := RX6) (T := TX6) (N := 6) hx hb hts iRX6 hown hK hP 1 rfl rfl 0 (by decide) (hts (.fieldLink RX6 9 "RecordBench$TextReader" "tape" "LRecordBench$Row;") (by decide +kernel)) (fun _ h9 => h9) rfl dX6_tell_47 ?_
  have hFc := va_free (wc := [(t0, .inr (7, [.ref tb, .int 0]))]) hD hS hA [2] rfl
  refine va_calli (va_runV (As := []) (rest := [.int 0]) ⟨hx, hb, hml, hown, hts⟩ (c_X5_size l dC dI t0 tb 0 H.size) (cwV 0 hts gp_X6_tell_X5_size_42 rfl rfl rfl (by decide +kernel) ⟨Nat.le_of_ble_eq_true rfl, Nat.le_of_ble_eq_true rfl⟩) ⟨Pr.blind _, va_recv hK hP (ci := 7) (q0 := 2) rfl rfl, fun U hU hW => ⟨rfl, Pr.at (hP.sub (ws' := [(t0, .inr (7, [.ref tb, .int 0]))]) [2] rfl) (hK.sub (tys' := []) [] rfl) (hD.sub (ws' := [(t0, .inr (7, [.ref tb, .int 0]))]) [2] (by decide) rfl) hN hZ hS hFc hU hW⟩⟩ rfl rfl hl.1 rfl (lv_room (Nat.le_of_ble_eq_true rfl)) dX6_tell_50 ⟨Nat.le_of_ble_eq_true rfl, Nat.le_of_ble_eq_true rfl⟩) hS (fun q _ h => hFc q h) hFc (fun r_9 u t H1 locs ht hvm hw_10 hB hz1 hk1 hS => ?_)
  obtain ⟨hP, hD, hK⟩ := Bq.join (wr := [(q_1, .inr (3, [.ref q_4, .int 0])), (h0, .inr (8, [.ref t0, .ref m0, .ref sb, .int 0, .int 0, .int (-1)]))]) hB ht hvm hP hD [2] [0, 1] rfl rfl (by decide) (by decide) hk1 hFc hK
  generalize H1 = H at hP hS ⊢
  have hP : va_P (dC, dI) vwCl [(q_1, .inr (3, [.ref q_4, .int 0])), (h0, .inr (8, [.ref t0, .ref m0, .ref sb, .int 0, .int 0, .int (-1)])), (t0, .inr (7, [.ref tb, .int 0]))] H := hP
  have hD : va_D A [(q_1, .inr (3, [.ref q_4, .int 0])), (h0, .inr (8, [.ref t0, .ref m0, .ref sb, .int 0, .int 0, .int (-1)])), (t0, .inr (7, [.ref tb, .int 0]))] := hD
  have hK : va_K (dC, dI) vwCl [] s := hK
  try dsimp only at hw_10
  have k_11 := hw_10
  refine W_toi (y := 0) k_11 ?_
  refine lv_icmp_lt (tgt := 58) hx hb dX6_tell_53 (by decide) (fun c_12 => absurd c_12 (by decide)) (fun c_12 => ?_)
  refine lv_aload_n hx hb dX6_tell_56 rfl (lv_at hl 1 rfl) ?_
  have hP9 := hP.sub (ws' := [(h0, .inr (8, [.ref t0, .ref m0, .ref sb, .int 0, .int 0, .int (-1)])), (t0, .inr (7, [.ref tb, .int 0])), (q_1, .inr (3, [.ref q_4, .int 0]))]) [1, 2, 0] rfl
  have hD9 := hD.sub (ws' := [(h0, .inr (8, [.ref t0, .ref m0, .ref sb, .int 0, .int 0, .int (-1)])), (t0, .inr (7, [.ref tb, .int 0])), (q_1, .inr (3, [.ref q_4, .int 0]))]) [1, 2, 0] (by decide) rfl
  have hK9 := hK.sub (tys' := []) [] rfl
  exact W.aret (v := .ref q_1) hx hb hr (Or.inl ⟨_, rfl⟩) (Or.inr ⟨_, rfl⟩) (fun t ht hW => ⟨⟨(some q_1), (q_1, q_4), rfl, rfl, by rw [ht]; exact hP9, va_K.moved hW.alike hK9, hD9⟩, hS.F ht⟩) hS.2.2 dX6_tell_57
