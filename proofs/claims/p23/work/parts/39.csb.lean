theorem dJ0_init_81219_0 : decode cJ0_init_81219 0 = .ok (.aload_n 0, 1) := by decide +kernel
theorem dJ0_init_81219_1 : decode cJ0_init_81219 1 = .ok (.aload_n 1, 1) := by decide +kernel
theorem dJ0_init_81219_2 : decode cJ0_init_81219 2 = .ok (.aconst_null, 1) := by decide +kernel
theorem dJ0_init_81219_3 : decode cJ0_init_81219 3 = .ok (.invokespecial 489, 3) := by decide +kernel
theorem dJ0_init_81219_6 : decode cJ0_init_81219 6 = .ok (.return_, 1) := by decide +kernel
theorem dJ0_init_db425_0 : decode cJ0_init_db425 0 = .ok (.aload_n 0, 1) := by decide +kernel
theorem dJ0_init_db425_1 : decode cJ0_init_db425 1 = .ok (.invokespecial 1, 3) := by decide +kernel
theorem dJ0_init_db425_10 : decode cJ0_init_db425 10 = .ok (.invokevirtual 549, 3) := by decide +kernel
theorem dJ0_init_db425_13 : decode cJ0_init_db425 13 = .ok (.istore 4, 2) := by decide +kernel
theorem dJ0_init_db425_15 : decode cJ0_init_db425 15 = .ok (.aload_n 1, 1) := by decide +kernel
theorem dJ0_init_db425_16 : decode cJ0_init_db425 16 = .ok (.invokevirtual 1047, 3) := by decide +kernel
theorem dJ0_init_db425_19 : decode cJ0_init_db425 19 = .ok (.ifCond .eq 22, 3) := by decide +kernel
theorem dJ0_init_db425_22 : decode cJ0_init_db425 22 = .ok (.aload_n 0, 1) := by decide +kernel
theorem dJ0_init_db425_23 : decode cJ0_init_db425 23 = .ok (.iconst 0, 1) := by decide +kernel
theorem dJ0_init_db425_24 : decode cJ0_init_db425 24 = .ok (.putfield 15, 3) := by decide +kernel
theorem dJ0_init_db425_27 : decode cJ0_init_db425 27 = .ok (.aload_n 0, 1) := by decide +kernel
theorem dJ0_init_db425_28 : decode cJ0_init_db425 28 = .ok (.aload_n 3, 1) := by decide +kernel
theorem dJ0_init_db425_29 : decode cJ0_init_db425 29 = .ok (.iconst 0, 1) := by decide +kernel
theorem dJ0_init_db425_30 : decode cJ0_init_db425 30 = .ok (.iload 4, 2) := by decide +kernel
theorem dJ0_init_db425_32 : decode cJ0_init_db425 32 = .ok (.invokestatic 54, 3) := by decide +kernel
theorem dJ0_init_db425_35 : decode cJ0_init_db425 35 = .ok (.putfield 9, 3) := by decide +kernel
theorem dJ0_init_db425_38 : decode cJ0_init_db425 38 = .ok (.goto 59, 3) := by decide +kernel
theorem dJ0_init_db425_4 : decode cJ0_init_db425 4 = .ok (.aload_n 1, 1) := by decide +kernel
theorem dJ0_init_db425_5 : decode cJ0_init_db425 5 = .ok (.invokevirtual 552, 3) := by decide +kernel
theorem dJ0_init_db425_8 : decode cJ0_init_db425 8 = .ok (.astore_n 3, 1) := by decide +kernel
theorem dJ0_init_db425_9 : decode cJ0_init_db425 9 = .ok (.aload_n 1, 1) := by decide +kernel
theorem dJ0_init_db425_97 : decode cJ0_init_db425 97 = .ok (.return_, 1) := by decide +kernel
theorem dJ1_canEncode_fc78d_0 : decode cJ1_canEncode_fc78d 0 = .ok (.iload_n 0, 1) := by decide +kernel
theorem dJ1_canEncode_fc78d_1 : decode cJ1_canEncode_fc78d 1 = .ok (.sipush 255, 3) := by decide +kernel
theorem dJ1_canEncode_fc78d_11 : decode cJ1_canEncode_fc78d 11 = .ok (.iconst 0, 1) := by decide +kernel
theorem dJ1_canEncode_fc78d_12 : decode cJ1_canEncode_fc78d 12 = .ok (.ireturn, 1) := by decide +kernel
theorem dJ1_canEncode_fc78d_4 : decode cJ1_canEncode_fc78d 4 = .ok (.if_icmp .gt 7, 3) := by decide +kernel
theorem dJ1_canEncode_fc78d_7 : decode cJ1_canEncode_fc78d 7 = .ok (.iconst 1, 1) := by decide +kernel
theorem dJ1_canEncode_fc78d_8 : decode cJ1_canEncode_fc78d 8 = .ok (.goto 4, 3) := by decide +kernel
theorem dJ4_append_cf468_0 : decode cJ4_append_cf468 0 = .ok (.aload_n 0, 1) := by decide +kernel
theorem dJ4_append_cf468_1 : decode cJ4_append_cf468 1 = .ok (.iload_n 1, 1) := by decide +kernel
theorem dJ4_append_cf468_2 : decode cJ4_append_cf468 2 = .ok (.invokespecial 50, 3) := by decide +kernel
theorem dJ4_append_cf468_5 : decode cJ4_append_cf468 5 = .ok (.pop, 1) := by decide +kernel
theorem dJ4_append_cf468_6 : decode cJ4_append_cf468 6 = .ok (.aload_n 0, 1) := by decide +kernel
theorem dJ4_append_cf468_7 : decode cJ4_append_cf468 7 = .ok (.areturn, 1) := by decide +kernel
theorem dJ4_length_8abf5_0 : decode cJ4_length_8abf5 0 = .ok (.aload_n 0, 1) := by decide +kernel
theorem dJ4_length_8abf5_1 : decode cJ4_length_8abf5 1 = .ok (.invokespecial 343, 3) := by decide +kernel
theorem dJ4_length_8abf5_4 : decode cJ4_length_8abf5 4 = .ok (.ireturn, 1) := by decide +kernel
theorem dJ4_setLength_d00df_0 : decode cJ4_setLength_d00df 0 = .ok (.aload_n 0, 1) := by decide +kernel
theorem dJ4_setLength_d00df_1 : decode cJ4_setLength_d00df 1 = .ok (.iload_n 1, 1) := by decide +kernel
theorem dJ4_setLength_d00df_2 : decode cJ4_setLength_d00df 2 = .ok (.invokespecial 333, 3) := by decide +kernel
theorem dJ4_setLength_d00df_5 : decode cJ4_setLength_d00df 5 = .ok (.return_, 1) := by decide +kernel
theorem dJ4_toString_0e30d_0 : decode cJ4_toString_0e30d 0 = .ok (.new 18, 3) := by decide +kernel
theorem dJ4_toString_0e30d_3 : decode cJ4_toString_0e30d 3 = .ok (.dup, 1) := by decide +kernel
theorem dJ4_toString_0e30d_4 : decode cJ4_toString_0e30d 4 = .ok (.aload_n 0, 1) := by decide +kernel
theorem dJ4_toString_0e30d_5 : decode cJ4_toString_0e30d 5 = .ok (.invokespecial 137, 3) := by decide +kernel
theorem dJ4_toString_0e30d_8 : decode cJ4_toString_0e30d 8 = .ok (.areturn, 1) := by decide +kernel
theorem dJ5_append_3fe6f_0 : decode cJ5_append_3fe6f 0 = .ok (.aload_n 0, 1) := by decide +kernel
theorem dJ5_append_3fe6f_1 : decode cJ5_append_3fe6f 1 = .ok (.aload_n 0, 1) := by decide +kernel
theorem dJ5_append_3fe6f_10 : decode cJ5_append_3fe6f 10 = .ok (.aload_n 0, 1) := by decide +kernel
theorem dJ5_append_3fe6f_11 : decode cJ5_append_3fe6f 11 = .ok (.invokevirtual 83, 3) := by decide +kernel
theorem dJ5_append_3fe6f_14 : decode cJ5_append_3fe6f 14 = .ok (.ifCond .eq 31, 3) := by decide +kernel
theorem dJ5_append_3fe6f_17 : decode cJ5_append_3fe6f 17 = .ok (.iload_n 1, 1) := by decide +kernel
theorem dJ5_append_3fe6f_18 : decode cJ5_append_3fe6f 18 = .ok (.invokestatic 191, 3) := by decide +kernel
theorem dJ5_append_3fe6f_2 : decode cJ5_append_3fe6f 2 = .ok (.getfield 79, 3) := by decide +kernel
theorem dJ5_append_3fe6f_21 : decode cJ5_append_3fe6f 21 = .ok (.ifCond .eq 24, 3) := by decide +kernel
theorem dJ5_append_3fe6f_24 : decode cJ5_append_3fe6f 24 = .ok (.aload_n 0, 1) := by decide +kernel
theorem dJ5_append_3fe6f_25 : decode cJ5_append_3fe6f 25 = .ok (.getfield 15, 3) := by decide +kernel
theorem dJ5_append_3fe6f_28 : decode cJ5_append_3fe6f 28 = .ok (.aload_n 0, 1) := by decide +kernel
theorem dJ5_append_3fe6f_29 : decode cJ5_append_3fe6f 29 = .ok (.dup, 1) := by decide +kernel
theorem dJ5_append_3fe6f_30 : decode cJ5_append_3fe6f 30 = .ok (.getfield 79, 3) := by decide +kernel
theorem dJ5_append_3fe6f_33 : decode cJ5_append_3fe6f 33 = .ok (.dup_x1, 1) := by decide +kernel
theorem dJ5_append_3fe6f_34 : decode cJ5_append_3fe6f 34 = .ok (.iconst 1, 1) := by decide +kernel
theorem dJ5_append_3fe6f_35 : decode cJ5_append_3fe6f 35 = .ok (.iadd, 1) := by decide +kernel
theorem dJ5_append_3fe6f_36 : decode cJ5_append_3fe6f 36 = .ok (.putfield 79, 3) := by decide +kernel
theorem dJ5_append_3fe6f_39 : decode cJ5_append_3fe6f 39 = .ok (.iload_n 1, 1) := by decide +kernel
theorem dJ5_append_3fe6f_40 : decode cJ5_append_3fe6f 40 = .ok (.i2b, 1) := by decide +kernel
theorem dJ5_append_3fe6f_41 : decode cJ5_append_3fe6f 41 = .ok (.bastore, 1) := by decide +kernel
theorem dJ5_append_3fe6f_42 : decode cJ5_append_3fe6f 42 = .ok (.goto 33, 3) := by decide +kernel
theorem dJ5_append_3fe6f_5 : decode cJ5_append_3fe6f 5 = .ok (.iconst 1, 1) := by decide +kernel
theorem dJ5_append_3fe6f_6 : decode cJ5_append_3fe6f 6 = .ok (.iadd, 1) := by decide +kernel
theorem dJ5_append_3fe6f_7 : decode cJ5_append_3fe6f 7 = .ok (.invokevirtual 100, 3) := by decide +kernel
theorem dJ5_append_3fe6f_75 : decode cJ5_append_3fe6f 75 = .ok (.aload_n 0, 1) := by decide +kernel
theorem dJ5_append_3fe6f_76 : decode cJ5_append_3fe6f 76 = .ok (.areturn, 1) := by decide +kernel
theorem dJ5_ensureCapacityInternal_d00df_0 : decode cJ5_ensureCapacityInternal_d00df 0 = .ok (.aload_n 0, 1) := by decide +kernel
theorem dJ5_ensureCapacityInternal_d00df_1 : decode cJ5_ensureCapacityInternal_d00df 1 = .ok (.getfield 15, 3) := by decide +kernel
theorem dJ5_ensureCapacityInternal_d00df_10 : decode cJ5_ensureCapacityInternal_d00df 10 = .ok (.istore_n 2, 1) := by decide +kernel
theorem dJ5_ensureCapacityInternal_d00df_11 : decode cJ5_ensureCapacityInternal_d00df 11 = .ok (.iload_n 1, 1) := by decide +kernel
theorem dJ5_ensureCapacityInternal_d00df_12 : decode cJ5_ensureCapacityInternal_d00df 12 = .ok (.iload_n 2, 1) := by decide +kernel
theorem dJ5_ensureCapacityInternal_d00df_13 : decode cJ5_ensureCapacityInternal_d00df 13 = .ok (.isub, 1) := by decide +kernel
theorem dJ5_ensureCapacityInternal_d00df_14 : decode cJ5_ensureCapacityInternal_d00df 14 = .ok (.ifCond .le 24, 3) := by decide +kernel
theorem dJ5_ensureCapacityInternal_d00df_17 : decode cJ5_ensureCapacityInternal_d00df 17 = .ok (.aload_n 0, 1) := by decide +kernel
theorem dJ5_ensureCapacityInternal_d00df_18 : decode cJ5_ensureCapacityInternal_d00df 18 = .ok (.aload_n 0, 1) := by decide +kernel
theorem dJ5_ensureCapacityInternal_d00df_19 : decode cJ5_ensureCapacityInternal_d00df 19 = .ok (.getfield 15, 3) := by decide +kernel
theorem dJ5_ensureCapacityInternal_d00df_22 : decode cJ5_ensureCapacityInternal_d00df 22 = .ok (.aload_n 0, 1) := by decide +kernel
theorem dJ5_ensureCapacityInternal_d00df_23 : decode cJ5_ensureCapacityInternal_d00df 23 = .ok (.iload_n 1, 1) := by decide +kernel
theorem dJ5_ensureCapacityInternal_d00df_24 : decode cJ5_ensureCapacityInternal_d00df 24 = .ok (.invokevirtual 104, 3) := by decide +kernel
theorem dJ5_ensureCapacityInternal_d00df_27 : decode cJ5_ensureCapacityInternal_d00df 27 = .ok (.aload_n 0, 1) := by decide +kernel
theorem dJ5_ensureCapacityInternal_d00df_28 : decode cJ5_ensureCapacityInternal_d00df 28 = .ok (.getfield 22, 3) := by decide +kernel
theorem dJ5_ensureCapacityInternal_d00df_31 : decode cJ5_ensureCapacityInternal_d00df 31 = .ok (.ishl, 1) := by decide +kernel
theorem dJ5_ensureCapacityInternal_d00df_32 : decode cJ5_ensureCapacityInternal_d00df 32 = .ok (.invokestatic 108, 3) := by decide +kernel
theorem dJ5_ensureCapacityInternal_d00df_35 : decode cJ5_ensureCapacityInternal_d00df 35 = .ok (.putfield 15, 3) := by decide +kernel
theorem dJ5_ensureCapacityInternal_d00df_38 : decode cJ5_ensureCapacityInternal_d00df 38 = .ok (.return_, 1) := by decide +kernel
theorem dJ5_ensureCapacityInternal_d00df_4 : decode cJ5_ensureCapacityInternal_d00df 4 = .ok (.arraylength, 1) := by decide +kernel
theorem dJ5_ensureCapacityInternal_d00df_5 : decode cJ5_ensureCapacityInternal_d00df 5 = .ok (.aload_n 0, 1) := by decide +kernel
theorem dJ5_ensureCapacityInternal_d00df_6 : decode cJ5_ensureCapacityInternal_d00df 6 = .ok (.getfield 22, 3) := by decide +kernel
theorem dJ5_ensureCapacityInternal_d00df_9 : decode cJ5_ensureCapacityInternal_d00df 9 = .ok (.ishr, 1) := by decide +kernel
theorem dJ5_getValue_6d5f1_0 : decode cJ5_getValue_6d5f1 0 = .ok (.aload_n 0, 1) := by decide +kernel
theorem dJ5_getValue_6d5f1_1 : decode cJ5_getValue_6d5f1 1 = .ok (.getfield 15, 3) := by decide +kernel
theorem dJ5_getValue_6d5f1_4 : decode cJ5_getValue_6d5f1 4 = .ok (.areturn, 1) := by decide +kernel
theorem dJ5_isLatin1_aae02_0 : decode cJ5_isLatin1_aae02 0 = .ok (.getstatic 18, 3) := by decide +kernel
theorem dJ5_isLatin1_aae02_10 : decode cJ5_isLatin1_aae02 10 = .ok (.ifCond .ne 7, 3) := by decide +kernel
theorem dJ5_isLatin1_aae02_13 : decode cJ5_isLatin1_aae02 13 = .ok (.iconst 1, 1) := by decide +kernel
theorem dJ5_isLatin1_aae02_14 : decode cJ5_isLatin1_aae02 14 = .ok (.goto 4, 3) := by decide +kernel
theorem dJ5_isLatin1_aae02_17 : decode cJ5_isLatin1_aae02 17 = .ok (.iconst 0, 1) := by decide +kernel
theorem dJ5_isLatin1_aae02_18 : decode cJ5_isLatin1_aae02 18 = .ok (.ireturn, 1) := by decide +kernel
theorem dJ5_isLatin1_aae02_3 : decode cJ5_isLatin1_aae02 3 = .ok (.ifCond .eq 14, 3) := by decide +kernel
theorem dJ5_isLatin1_aae02_6 : decode cJ5_isLatin1_aae02 6 = .ok (.aload_n 0, 1) := by decide +kernel
theorem dJ5_isLatin1_aae02_7 : decode cJ5_isLatin1_aae02 7 = .ok (.getfield 22, 3) := by decide +kernel
theorem dJ5_length_8abf5_0 : decode cJ5_length_8abf5 0 = .ok (.aload_n 0, 1) := by decide +kernel
theorem dJ5_length_8abf5_1 : decode cJ5_length_8abf5 1 = .ok (.getfield 79, 3) := by decide +kernel
theorem dJ5_length_8abf5_4 : decode cJ5_length_8abf5 4 = .ok (.ireturn, 1) := by decide +kernel
theorem dJ5_newCapacity_0f7a4_0 : decode cJ5_newCapacity_0f7a4 0 = .ok (.aload_n 0, 1) := by decide +kernel
theorem dJ5_newCapacity_0f7a4_1 : decode cJ5_newCapacity_0f7a4 1 = .ok (.getfield 15, 3) := by decide +kernel
theorem dJ5_newCapacity_0f7a4_11 : decode cJ5_newCapacity_0f7a4 11 = .ok (.ishl, 1) := by decide +kernel
theorem dJ5_newCapacity_0f7a4_12 : decode cJ5_newCapacity_0f7a4 12 = .ok (.istore_n 3, 1) := by decide +kernel
theorem dJ5_newCapacity_0f7a4_13 : decode cJ5_newCapacity_0f7a4 13 = .ok (.iload_n 3, 1) := by decide +kernel
theorem dJ5_newCapacity_0f7a4_14 : decode cJ5_newCapacity_0f7a4 14 = .ok (.iload_n 2, 1) := by decide +kernel
theorem dJ5_newCapacity_0f7a4_15 : decode cJ5_newCapacity_0f7a4 15 = .ok (.isub, 1) := by decide +kernel
theorem dJ5_newCapacity_0f7a4_16 : decode cJ5_newCapacity_0f7a4 16 = .ok (.istore 4, 2) := by decide +kernel
theorem dJ5_newCapacity_0f7a4_18 : decode cJ5_newCapacity_0f7a4 18 = .ok (.iload_n 2, 1) := by decide +kernel
theorem dJ5_newCapacity_0f7a4_19 : decode cJ5_newCapacity_0f7a4 19 = .ok (.iload 4, 2) := by decide +kernel
theorem dJ5_newCapacity_0f7a4_21 : decode cJ5_newCapacity_0f7a4 21 = .ok (.iload_n 2, 1) := by decide +kernel
theorem dJ5_newCapacity_0f7a4_22 : decode cJ5_newCapacity_0f7a4 22 = .ok (.iconst 2, 1) := by decide +kernel
theorem dJ5_newCapacity_0f7a4_23 : decode cJ5_newCapacity_0f7a4 23 = .ok (.aload_n 0, 1) := by decide +kernel
theorem dJ5_newCapacity_0f7a4_24 : decode cJ5_newCapacity_0f7a4 24 = .ok (.getfield 22, 3) := by decide +kernel
theorem dJ5_newCapacity_0f7a4_27 : decode cJ5_newCapacity_0f7a4 27 = .ok (.ishl, 1) := by decide +kernel
theorem dJ5_newCapacity_0f7a4_28 : decode cJ5_newCapacity_0f7a4 28 = .ok (.iadd, 1) := by decide +kernel
theorem dJ5_newCapacity_0f7a4_29 : decode cJ5_newCapacity_0f7a4 29 = .ok (.invokestatic 114, 3) := by decide +kernel
theorem dJ5_newCapacity_0f7a4_32 : decode cJ5_newCapacity_0f7a4 32 = .ok (.istore 5, 2) := by decide +kernel
theorem dJ5_newCapacity_0f7a4_34 : decode cJ5_newCapacity_0f7a4 34 = .ok (.iload 5, 2) := by decide +kernel
theorem dJ5_newCapacity_0f7a4_36 : decode cJ5_newCapacity_0f7a4 36 = .ok (.ldc 39, 2) := by decide +kernel
theorem dJ5_newCapacity_0f7a4_38 : decode cJ5_newCapacity_0f7a4 38 = .ok (.if_icmp .ne 13, 3) := by decide +kernel
theorem dJ5_newCapacity_0f7a4_4 : decode cJ5_newCapacity_0f7a4 4 = .ok (.arraylength, 1) := by decide +kernel
theorem dJ5_newCapacity_0f7a4_5 : decode cJ5_newCapacity_0f7a4 5 = .ok (.istore_n 2, 1) := by decide +kernel
theorem dJ5_newCapacity_0f7a4_51 : decode cJ5_newCapacity_0f7a4 51 = .ok (.iload 5, 2) := by decide +kernel
theorem dJ5_newCapacity_0f7a4_53 : decode cJ5_newCapacity_0f7a4 53 = .ok (.aload_n 0, 1) := by decide +kernel
theorem dJ5_newCapacity_0f7a4_54 : decode cJ5_newCapacity_0f7a4 54 = .ok (.getfield 22, 3) := by decide +kernel
theorem dJ5_newCapacity_0f7a4_57 : decode cJ5_newCapacity_0f7a4 57 = .ok (.ishr, 1) := by decide +kernel
theorem dJ5_newCapacity_0f7a4_58 : decode cJ5_newCapacity_0f7a4 58 = .ok (.ireturn, 1) := by decide +kernel
theorem dJ5_newCapacity_0f7a4_6 : decode cJ5_newCapacity_0f7a4 6 = .ok (.iload_n 1, 1) := by decide +kernel
theorem dJ5_newCapacity_0f7a4_7 : decode cJ5_newCapacity_0f7a4 7 = .ok (.aload_n 0, 1) := by decide +kernel
theorem dJ5_newCapacity_0f7a4_8 : decode cJ5_newCapacity_0f7a4 8 = .ok (.getfield 22, 3) := by decide +kernel
theorem dJ5_setLength_d00df_0 : decode cJ5_setLength_d00df 0 = .ok (.iload_n 1, 1) := by decide +kernel
theorem dJ5_setLength_d00df_1 : decode cJ5_setLength_d00df 1 = .ok (.ifCond .ge 12, 3) := by decide +kernel
theorem dJ5_setLength_d00df_13 : decode cJ5_setLength_d00df 13 = .ok (.aload_n 0, 1) := by decide +kernel
theorem dJ5_setLength_d00df_14 : decode cJ5_setLength_d00df 14 = .ok (.iload_n 1, 1) := by decide +kernel
theorem dJ5_setLength_d00df_15 : decode cJ5_setLength_d00df 15 = .ok (.invokevirtual 100, 3) := by decide +kernel
theorem dJ5_setLength_d00df_18 : decode cJ5_setLength_d00df 18 = .ok (.aload_n 0, 1) := by decide +kernel
theorem dJ5_setLength_d00df_19 : decode cJ5_setLength_d00df 19 = .ok (.getfield 79, 3) := by decide +kernel
theorem dJ5_setLength_d00df_22 : decode cJ5_setLength_d00df 22 = .ok (.iload_n 1, 1) := by decide +kernel
theorem dJ5_setLength_d00df_23 : decode cJ5_setLength_d00df 23 = .ok (.if_icmp .ge 40, 3) := by decide +kernel
theorem dJ5_setLength_d00df_63 : decode cJ5_setLength_d00df 63 = .ok (.aload_n 0, 1) := by decide +kernel
theorem dJ5_setLength_d00df_64 : decode cJ5_setLength_d00df 64 = .ok (.getfield 79, 3) := by decide +kernel
theorem dJ5_setLength_d00df_67 : decode cJ5_setLength_d00df 67 = .ok (.iload_n 1, 1) := by decide +kernel
theorem dJ5_setLength_d00df_68 : decode cJ5_setLength_d00df 68 = .ok (.if_icmp .le 8, 3) := by decide +kernel
theorem dJ5_setLength_d00df_71 : decode cJ5_setLength_d00df 71 = .ok (.aload_n 0, 1) := by decide +kernel
theorem dJ5_setLength_d00df_72 : decode cJ5_setLength_d00df 72 = .ok (.iconst 1, 1) := by decide +kernel
theorem dJ5_setLength_d00df_73 : decode cJ5_setLength_d00df 73 = .ok (.putfield 73, 3) := by decide +kernel
theorem dJ5_setLength_d00df_76 : decode cJ5_setLength_d00df 76 = .ok (.aload_n 0, 1) := by decide +kernel
theorem dJ5_setLength_d00df_77 : decode cJ5_setLength_d00df 77 = .ok (.iload_n 1, 1) := by decide +kernel
theorem dJ5_setLength_d00df_78 : decode cJ5_setLength_d00df 78 = .ok (.putfield 79, 3) := by decide +kernel
theorem dJ5_setLength_d00df_81 : decode cJ5_setLength_d00df 81 = .ok (.return_, 1) := by decide +kernel
theorem dJ7_checkLength_df160_0 : decode cJ7_checkLength_df160 0 = .ok (.iload_n 1, 1) := by decide +kernel
theorem dJ7_checkLength_df160_1 : decode cJ7_checkLength_df160 1 = .ok (.iload_n 0, 1) := by decide +kernel
theorem dJ7_checkLength_df160_2 : decode cJ7_checkLength_df160 2 = .ok (.if_icmp .ge 35, 3) := by decide +kernel
theorem dJ7_checkLength_df160_37 : decode cJ7_checkLength_df160 37 = .ok (.return_, 1) := by decide +kernel
theorem dJ7_copyOfRangeByte_39247_0 : decode cJ7_copyOfRangeByte_39247 0 = .ok (.iload_n 1, 1) := by decide +kernel
theorem dJ7_copyOfRangeByte_39247_1 : decode cJ7_copyOfRangeByte_39247 1 = .ok (.iload_n 2, 1) := by decide +kernel
theorem dJ7_copyOfRangeByte_39247_10 : decode cJ7_copyOfRangeByte_39247 10 = .ok (.newarray .byte, 2) := by decide +kernel
theorem dJ7_copyOfRangeByte_39247_12 : decode cJ7_copyOfRangeByte_39247 12 = .ok (.astore 4, 2) := by decide +kernel
theorem dJ7_copyOfRangeByte_39247_14 : decode cJ7_copyOfRangeByte_39247 14 = .ok (.aload_n 0, 1) := by decide +kernel
theorem dJ7_copyOfRangeByte_39247_15 : decode cJ7_copyOfRangeByte_39247 15 = .ok (.iload_n 1, 1) := by decide +kernel
theorem dJ7_copyOfRangeByte_39247_16 : decode cJ7_copyOfRangeByte_39247 16 = .ok (.aload 4, 2) := by decide +kernel
theorem dJ7_copyOfRangeByte_39247_18 : decode cJ7_copyOfRangeByte_39247 18 = .ok (.iconst 0, 1) := by decide +kernel
theorem dJ7_copyOfRangeByte_39247_19 : decode cJ7_copyOfRangeByte_39247 19 = .ok (.aload_n 0, 1) := by decide +kernel
theorem dJ7_copyOfRangeByte_39247_2 : decode cJ7_copyOfRangeByte_39247 2 = .ok (.invokestatic 343, 3) := by decide +kernel
theorem dJ7_copyOfRangeByte_39247_20 : decode cJ7_copyOfRangeByte_39247 20 = .ok (.arraylength, 1) := by decide +kernel
theorem dJ7_copyOfRangeByte_39247_21 : decode cJ7_copyOfRangeByte_39247 21 = .ok (.iload_n 1, 1) := by decide +kernel
theorem dJ7_copyOfRangeByte_39247_22 : decode cJ7_copyOfRangeByte_39247 22 = .ok (.isub, 1) := by decide +kernel
theorem dJ7_copyOfRangeByte_39247_23 : decode cJ7_copyOfRangeByte_39247 23 = .ok (.iload_n 3, 1) := by decide +kernel
theorem dJ7_copyOfRangeByte_39247_24 : decode cJ7_copyOfRangeByte_39247 24 = .ok (.invokestatic 304, 3) := by decide +kernel
theorem dJ7_copyOfRangeByte_39247_27 : decode cJ7_copyOfRangeByte_39247 27 = .ok (.invokestatic 150, 3) := by decide +kernel
theorem dJ7_copyOfRangeByte_39247_30 : decode cJ7_copyOfRangeByte_39247 30 = .ok (.aload 4, 2) := by decide +kernel
theorem dJ7_copyOfRangeByte_39247_32 : decode cJ7_copyOfRangeByte_39247 32 = .ok (.areturn, 1) := by decide +kernel
theorem dJ7_copyOfRangeByte_39247_5 : decode cJ7_copyOfRangeByte_39247 5 = .ok (.iload_n 2, 1) := by decide +kernel
theorem dJ7_copyOfRangeByte_39247_6 : decode cJ7_copyOfRangeByte_39247 6 = .ok (.iload_n 1, 1) := by decide +kernel
theorem dJ7_copyOfRangeByte_39247_7 : decode cJ7_copyOfRangeByte_39247 7 = .ok (.isub, 1) := by decide +kernel
theorem dJ7_copyOfRangeByte_39247_8 : decode cJ7_copyOfRangeByte_39247 8 = .ok (.istore_n 3, 1) := by decide +kernel
theorem dJ7_copyOfRangeByte_39247_9 : decode cJ7_copyOfRangeByte_39247 9 = .ok (.iload_n 3, 1) := by decide +kernel
theorem dJ7_copyOfRange_39247_0 : decode cJ7_copyOfRange_39247 0 = .ok (.iload_n 1, 1) := by decide +kernel
theorem dJ7_copyOfRange_39247_1 : decode cJ7_copyOfRange_39247 1 = .ok (.ifCond .ne 9, 3) := by decide +kernel
theorem dJ7_copyOfRange_39247_10 : decode cJ7_copyOfRange_39247 10 = .ok (.aload_n 0, 1) := by decide +kernel
theorem dJ7_copyOfRange_39247_11 : decode cJ7_copyOfRange_39247 11 = .ok (.iload_n 1, 1) := by decide +kernel
theorem dJ7_copyOfRange_39247_12 : decode cJ7_copyOfRange_39247 12 = .ok (.iload_n 2, 1) := by decide +kernel
theorem dJ7_copyOfRange_39247_13 : decode cJ7_copyOfRange_39247 13 = .ok (.invokestatic 339, 3) := by decide +kernel
theorem dJ7_copyOfRange_39247_16 : decode cJ7_copyOfRange_39247 16 = .ok (.areturn, 1) := by decide +kernel
theorem dJ7_copyOfRange_39247_17 : decode cJ7_copyOfRange_39247 17 = .ok (.aload_n 0, 1) := by decide +kernel
theorem dJ7_copyOfRange_39247_18 : decode cJ7_copyOfRange_39247 18 = .ok (.invokevirtual 310, 3) := by decide +kernel
theorem dJ7_copyOfRange_39247_21 : decode cJ7_copyOfRange_39247 21 = .ok (.checkcast 311, 3) := by decide +kernel
theorem dJ7_copyOfRange_39247_24 : decode cJ7_copyOfRange_39247 24 = .ok (.areturn, 1) := by decide +kernel
theorem dJ7_copyOfRange_39247_4 : decode cJ7_copyOfRange_39247 4 = .ok (.iload_n 2, 1) := by decide +kernel
theorem dJ7_copyOfRange_39247_5 : decode cJ7_copyOfRange_39247 5 = .ok (.aload_n 0, 1) := by decide +kernel
theorem dJ7_copyOfRange_39247_6 : decode cJ7_copyOfRange_39247 6 = .ok (.arraylength, 1) := by decide +kernel
theorem dJ7_copyOfRange_39247_7 : decode cJ7_copyOfRange_39247 7 = .ok (.if_icmp .eq 10, 3) := by decide +kernel
theorem dJ7_copyOf_9075b_0 : decode cJ7_copyOf_9075b 0 = .ok (.iload_n 1, 1) := by decide +kernel
theorem dJ7_copyOf_9075b_1 : decode cJ7_copyOf_9075b 1 = .ok (.aload_n 0, 1) := by decide +kernel
theorem dJ7_copyOf_9075b_14 : decode cJ7_copyOf_9075b 14 = .ok (.iload_n 1, 1) := by decide +kernel
theorem dJ7_copyOf_9075b_15 : decode cJ7_copyOf_9075b 15 = .ok (.newarray .byte, 2) := by decide +kernel
theorem dJ7_copyOf_9075b_17 : decode cJ7_copyOf_9075b 17 = .ok (.astore_n 2, 1) := by decide +kernel
theorem dJ7_copyOf_9075b_18 : decode cJ7_copyOf_9075b 18 = .ok (.aload_n 0, 1) := by decide +kernel
theorem dJ7_copyOf_9075b_19 : decode cJ7_copyOf_9075b 19 = .ok (.iconst 0, 1) := by decide +kernel
theorem dJ7_copyOf_9075b_2 : decode cJ7_copyOf_9075b 2 = .ok (.arraylength, 1) := by decide +kernel
theorem dJ7_copyOf_9075b_20 : decode cJ7_copyOf_9075b 20 = .ok (.aload_n 2, 1) := by decide +kernel
theorem dJ7_copyOf_9075b_21 : decode cJ7_copyOf_9075b 21 = .ok (.iconst 0, 1) := by decide +kernel
theorem dJ7_copyOf_9075b_22 : decode cJ7_copyOf_9075b 22 = .ok (.aload_n 0, 1) := by decide +kernel
theorem dJ7_copyOf_9075b_23 : decode cJ7_copyOf_9075b 23 = .ok (.arraylength, 1) := by decide +kernel
theorem dJ7_copyOf_9075b_24 : decode cJ7_copyOf_9075b 24 = .ok (.iload_n 1, 1) := by decide +kernel
theorem dJ7_copyOf_9075b_25 : decode cJ7_copyOf_9075b 25 = .ok (.invokestatic 304, 3) := by decide +kernel
theorem dJ7_copyOf_9075b_28 : decode cJ7_copyOf_9075b 28 = .ok (.invokestatic 150, 3) := by decide +kernel
theorem dJ7_copyOf_9075b_3 : decode cJ7_copyOf_9075b 3 = .ok (.if_icmp .ne 11, 3) := by decide +kernel
theorem dJ7_copyOf_9075b_31 : decode cJ7_copyOf_9075b 31 = .ok (.aload_n 2, 1) := by decide +kernel
theorem dJ7_copyOf_9075b_32 : decode cJ7_copyOf_9075b 32 = .ok (.areturn, 1) := by decide +kernel
theorem dJ8_newLength_cabcc_0 : decode cJ8_newLength_cabcc 0 = .ok (.iload_n 0, 1) := by decide +kernel
theorem dJ8_newLength_cabcc_1 : decode cJ8_newLength_cabcc 1 = .ok (.iload_n 1, 1) := by decide +kernel
theorem dJ8_newLength_cabcc_10 : decode cJ8_newLength_cabcc 10 = .ok (.if_icmp .ge 11, 3) := by decide +kernel
theorem dJ8_newLength_cabcc_13 : decode cJ8_newLength_cabcc 13 = .ok (.iload_n 3, 1) := by decide +kernel
theorem dJ8_newLength_cabcc_14 : decode cJ8_newLength_cabcc 14 = .ok (.ldc 200, 2) := by decide +kernel
theorem dJ8_newLength_cabcc_16 : decode cJ8_newLength_cabcc 16 = .ok (.if_icmp .gt 5, 3) := by decide +kernel
theorem dJ8_newLength_cabcc_19 : decode cJ8_newLength_cabcc 19 = .ok (.iload_n 3, 1) := by decide +kernel
theorem dJ8_newLength_cabcc_2 : decode cJ8_newLength_cabcc 2 = .ok (.iload_n 2, 1) := by decide +kernel
theorem dJ8_newLength_cabcc_20 : decode cJ8_newLength_cabcc 20 = .ok (.ireturn, 1) := by decide +kernel
theorem dJ8_newLength_cabcc_3 : decode cJ8_newLength_cabcc 3 = .ok (.invokestatic 194, 3) := by decide +kernel
theorem dJ8_newLength_cabcc_6 : decode cJ8_newLength_cabcc 6 = .ok (.iadd, 1) := by decide +kernel
theorem dJ8_newLength_cabcc_7 : decode cJ8_newLength_cabcc 7 = .ok (.istore_n 3, 1) := by decide +kernel
theorem dJ8_newLength_cabcc_8 : decode cJ8_newLength_cabcc 8 = .ok (.iconst 0, 1) := by decide +kernel
theorem dJ8_newLength_cabcc_9 : decode cJ8_newLength_cabcc 9 = .ok (.iload_n 3, 1) := by decide +kernel
noncomputable def fJ5_isLatin1_aae02 (h0 : Nat) (st : CS) : Option (Int32 × CS) := pif ((1 : Int32) = 0) (some ((0 : Int32), st)) (gd (qk st h0 = 2) (pif ((qI st h0 1) = 0) (some ((1 : Int32), st)) (some ((0 : Int32), st))))
set_option maxHeartbeats 1000000 in
theorem mo_J5_isLatin1_aae02 (h0 : Nat) (st : CS) (r : Int32) (st' : CS) (hf : fJ5_isLatin1_aae02 h0 st = some (r, st')) : Ke st st' := by
  unfold fJ5_isLatin1_aae02 at hf
  have hm : Ke st st := Ke.rf
  rcases pif_or hf with ⟨c_1, hf⟩ | ⟨c_1, hf⟩
  · obtain ⟨e1, e2⟩ := pr_some hf
    exact e2 ▸ hm
  · obtain ⟨hk_2, hf⟩ := gd_some hf
    rcases pif_or hf with ⟨c_3, hf⟩ | ⟨c_3, hf⟩
    · obtain ⟨e1, e2⟩ := pr_some hf
      exact e2 ▸ hm
    · obtain ⟨e1, e2⟩ := pr_some hf
      exact e2 ▸ hm
def wq_J5_isLatin1_aae02 : List Cond := .code yJ5_isLatin1_aae02 cJ5_isLatin1_aae02 1 (some .boolean) :: (([.fieldLink RJ5 18 "java/lang/String" "COMPACT_STRINGS" "Z", .fieldLink RJ5 22 "java/lang/AbstractStringBuilder" "coder" "B"] : List Cond) ++ wsJ40)
set_option maxHeartbeats 4000000 in
set_option maxRecDepth 100000 in
theorem c_J5_isLatin1_aae02 (l : Launch) (dC : Nat → ClassId) (dI : Nat → Nat → Nat) (ka ad : Nat → Nat) (ct : Nat → ClassId) (h0 : Nat) (st st' : CS) (r : Int32) (hf : fJ5_isLatin1_aae02 h0 st = some (r, st')) (sz : Nat) : Met l yJ5_isLatin1_aae02 wq_J5_isLatin1_aae02 ({ frames := 0, cells := 0, slots := 0, locals := 0 }) (va_Pc [.ref (ad h0)] (PrC (dC, dI) ct ka ad st sz)) (va_Qi (fun r' (_ : Unit) => r' = r) (fun _ => CB (dC, dI) ct ka ad st' (aC ad st sz)) (aC ad st sz)) 0 0 (aC ad st sz) := by
  refine Met.ofW (cc := cJ5_isLatin1_aae02) (maxL := 1) (ret := (some .boolean)) (by decide) rfl ?_
  intro p e s m args below meth c s₁ B hml hv
  obtain ⟨rfl, hsz, hw0, hK, hN, hZ, hC, hR, hL, hw1, hw2⟩ := hv
  have hx := B.exec
  have hb := B.bytes
  have hr := B.returns
  have hts := atoms_spec (ws := wq_J5_isLatin1_aae02) B.pre
  have hown : s.vm.findClass RJ5 = some m.cls := findClass_of_methodNamed B.named
  have iRJ4 : ∀ w ∈ u_ws RJ4 TJ4 4, w ∈ wq_J5_isLatin1_aae02 := fun w h => List.mem_cons_of_mem _ (List.mem_append_right _ h)
  subst hsz
  have hp : Cp (dC, dI) ka ad ct (aC ad st s.heap.size) s.heap st s.heap [] := ⟨fun i a b => ⟨hw0 i a b, Or.inl ⟨i, a, b, rfl⟩⟩, va_S.rf, hw1, hw2⟩
  generalize hAe : aC ad st s.heap.size = A at hp hZ hC ⊢
  have hA : ∀ q : Nat, s.heap.size ≤ q → A q := fun q h => by rw [← hAe]; exact Or.inr h
  have hl := lv_entry ([.ref (ad h0)]) (n := 1) (Nat.le_of_ble_eq_true rfl)
  rw [lg_entry_eq]
  generalize (lg_sl ([.ref (ad h0)]) ++ List.replicate (1 - (lg_sl ([.ref (ad h0)])).length) Slot.unset).toArray = ls at hl ⊢
  have hl : lv_has ls 1 [(0, .ref (ad h0))] := hl
  unfold fJ5_isLatin1_aae02 at hf
  refine va_gets (C := "java/lang/String") (n := "COMPACT_STRINGS") (d := "Z") (v := .int 1) hx hb hZ hp.2.1 hown (hts (.fieldLink RJ5 18 "java/lang/String" "COMPACT_STRINGS" "Z") (by decide +kernel)) (fun _ h9 => h9) dJ5_isLatin1_aae02_0 ?_
  refine lv_if_eq (tgt := 17) hx hb dJ5_isLatin1_aae02_3 (by decide) (fun c_1 => ?_) (fun c_1 => ?_)
  · have hf := pif_t c_1 hf
    refine lv_iconst (v := 0) hx hb dJ5_isLatin1_aae02_17 (by decide) ?_
    obtain ⟨e1, e2⟩ := pr_some hf
    exact W.zret (v := 0) hx hb hr rfl (fun t ht hW => ⟨⟨0, (), rfl, e1, Cp.end e2 hp ht⟩, hp.2.1.F ht⟩) hp.2.1.2.2 dJ5_isLatin1_aae02_18
  · have hf := pif_f c_1 hf
    refine lv_aload_n hx hb dJ5_isLatin1_aae02_6 rfl (lv_at hl 0 rfl) ?_
    obtain ⟨hk_2, hf⟩ := gd_some hf
    refine q_gi (ci := 1) (C := RJ4) (T := TJ4) (N := 4) (k := 1) hx hb hts iRJ4 hown hK hp hk_2 (by decide) rfl rfl (by decide) rfl (Or.inl (hts (.fieldLink RJ5 22 "java/lang/AbstractStringBuilder" "coder" "B") (by decide +kernel))) (fun _ h9 => h9) dJ5_isLatin1_aae02_7 ?_
    refine lv_if_ne (tgt := 17) hx hb dJ5_isLatin1_aae02_10 (by decide) (fun c_3 => ?_) (fun c_3 => ?_)
    · have hf := pif_f c_3 hf
      refine lv_iconst (v := 0) hx hb dJ5_isLatin1_aae02_17 (by decide) ?_
      obtain ⟨e1, e2⟩ := pr_some hf
      exact W.zret (v := 0) hx hb hr rfl (fun t ht hW => ⟨⟨0, (), rfl, e1, Cp.end e2 hp ht⟩, hp.2.1.F ht⟩) hp.2.1.2.2 dJ5_isLatin1_aae02_18
    · have hf := pif_t c_3 hf
      refine lv_iconst (v := 1) hx hb dJ5_isLatin1_aae02_13 (by decide) ?_
      refine lv_goto (tgt := 18) hx hb dJ5_isLatin1_aae02_14 (by decide) ?_
      obtain ⟨e1, e2⟩ := pr_some hf
      exact W.zret (v := 1) hx hb hr rfl (fun t ht hW => ⟨⟨1, (), rfl, e1, Cp.end e2 hp ht⟩, hp.2.1.F ht⟩) hp.2.1.2.2 dJ5_isLatin1_aae02_18
noncomputable def fJ5_length_8abf5 (h0 : Nat) (st : CS) : Option (Int32 × CS) := gd (qk st h0 = 2) (some (qI st h0 3, st))
set_option maxHeartbeats 1000000 in
theorem mo_J5_length_8abf5 (h0 : Nat) (st : CS) (r : Int32) (st' : CS) (hf : fJ5_length_8abf5 h0 st = some (r, st')) : Ke st st' := by
  unfold fJ5_length_8abf5 at hf
  have hm : Ke st st := Ke.rf
  obtain ⟨hk_1, hf⟩ := gd_some hf
  obtain ⟨e1, e2⟩ := pr_some hf
  exact e2 ▸ hm
def wq_J5_length_8abf5 : List Cond := .code yJ5_length_8abf5 cJ5_length_8abf5 1 (some .int) :: (([.fieldLink RJ5 79 "java/lang/AbstractStringBuilder" "count" "I"] : List Cond) ++ wsJ40)
set_option maxHeartbeats 4000000 in
set_option maxRecDepth 100000 in
theorem c_J5_length_8abf5 (l : Launch) (dC : Nat → ClassId) (dI : Nat → Nat → Nat) (ka ad : Nat → Nat) (ct : Nat → ClassId) (h0 : Nat) (st st' : CS) (r : Int32) (hf : fJ5_length_8abf5 h0 st = some (r, st')) (sz : Nat) : Met l yJ5_length_8abf5 wq_J5_length_8abf5 ({ frames := 0, cells := 0, slots := 0, locals := 0 }) (va_Pc [.ref (ad h0)] (PrC (dC, dI) ct ka ad st sz)) (va_Qi (fun r' (_ : Unit) => r' = r) (fun _ => CB (dC, dI) ct ka ad st' (aC ad st sz)) (aC ad st sz)) 0 0 (aC ad st sz) := by
  refine Met.ofW (cc := cJ5_length_8abf5) (maxL := 1) (ret := (some .int)) (by decide) rfl ?_
  intro p e s m args below meth c s₁ B hml hv
  obtain ⟨rfl, hsz, hw0, hK, hN, hZ, hC, hR, hL, hw1, hw2⟩ := hv
  have hx := B.exec
  have hb := B.bytes
  have hr := B.returns
  have hts := atoms_spec (ws := wq_J5_length_8abf5) B.pre
  have hown : s.vm.findClass RJ5 = some m.cls := findClass_of_methodNamed B.named
  have iRJ4 : ∀ w ∈ u_ws RJ4 TJ4 4, w ∈ wq_J5_length_8abf5 := fun w h => List.mem_cons_of_mem _ (List.mem_append_right _ h)
  subst hsz
  have hp : Cp (dC, dI) ka ad ct (aC ad st s.heap.size) s.heap st s.heap [] := ⟨fun i a b => ⟨hw0 i a b, Or.inl ⟨i, a, b, rfl⟩⟩, va_S.rf, hw1, hw2⟩
  generalize hAe : aC ad st s.heap.size = A at hp hZ hC ⊢
  have hA : ∀ q : Nat, s.heap.size ≤ q → A q := fun q h => by rw [← hAe]; exact Or.inr h
  have hl := lv_entry ([.ref (ad h0)]) (n := 1) (Nat.le_of_ble_eq_true rfl)
  rw [lg_entry_eq]
  generalize (lg_sl ([.ref (ad h0)]) ++ List.replicate (1 - (lg_sl ([.ref (ad h0)])).length) Slot.unset).toArray = ls at hl ⊢
  have hl : lv_has ls 1 [(0, .ref (ad h0))] := hl
  unfold fJ5_length_8abf5 at hf
  refine lv_aload_n hx hb dJ5_length_8abf5_0 rfl (lv_at hl 0 rfl) ?_
  obtain ⟨hk_1, hf⟩ := gd_some hf
  refine q_gi (ci := 1) (C := RJ4) (T := TJ4) (N := 4) (k := 3) hx hb hts iRJ4 hown hK hp hk_1 (by decide) rfl rfl (by decide) rfl (Or.inl (hts (.fieldLink RJ5 79 "java/lang/AbstractStringBuilder" "count" "I") (by decide +kernel))) (fun _ h9 => h9) dJ5_length_8abf5_1 ?_
  obtain ⟨e1, e2⟩ := pr_some hf
  exact W.iret (v := qI st h0 3) hx hb hr (fun t ht hW => ⟨⟨qI st h0 3, (), rfl, e1, Cp.end e2 hp ht⟩, hp.2.1.F ht⟩) hp.2.1.2.2 dJ5_length_8abf5_4
noncomputable def fJ4_length_8abf5 (h0 : Nat) (st : CS) : Option (Int32 × CS) := gd (qk st h0 = 2) (bnd (fJ5_length_8abf5 h0 st) (fun r_4 st_2 => some (r_4, st_2)))
set_option maxHeartbeats 1000000 in
theorem mo_J4_length_8abf5 (h0 : Nat) (st : CS) (r : Int32) (st' : CS) (hf : fJ4_length_8abf5 h0 st = some (r, st')) : Ke st st' := by
  unfold fJ4_length_8abf5 at hf
  have hm : Ke st st := Ke.rf
  obtain ⟨hk_1, hf⟩ := gd_some hf
  obtain ⟨r_4, st_2, hc_3, hf⟩ := bnd_some hf
  have hm := hm.tr (mo_J5_length_8abf5 h0 _ _ _ hc_3)
  obtain ⟨e1, e2⟩ := pr_some hf
  exact e2 ▸ hm
def wq_J4_length_8abf5 : List Cond := .code yJ4_length_8abf5 cJ4_length_8abf5 1 (some .int) :: (([.methodLink RJ4 343 yJ5_length_8abf5, .sameMethod "java/lang/AbstractStringBuilder" "java/lang/AbstractStringBuilder" "length" "()I", .superclass RJ4 RJ5, .instanceMethod yJ5_length_8abf5, .initialized RJ5, .code yJ5_length_8abf5 cJ5_length_8abf5 1 (some .int), .fieldLink RJ5 79 "java/lang/AbstractStringBuilder" "count" "I"] : List Cond) ++ wsJ40)
set_option maxRecDepth 20000 in
theorem gq_J4_length_8abf5_J5_length_8abf5_343 : GoodIn wq_J4_length_8abf5 (va_wsSU RJ4 343 yJ5_length_8abf5 wq_J5_length_8abf5) := goodIn_p _ [6] rfl (by decide +kernel)
set_option maxHeartbeats 4000000 in
set_option maxRecDepth 100000 in
theorem c_J4_length_8abf5 (l : Launch) (dC : Nat → ClassId) (dI : Nat → Nat → Nat) (ka ad : Nat → Nat) (ct : Nat → ClassId) (h0 : Nat) (st st' : CS) (r : Int32) (hf : fJ4_length_8abf5 h0 st = some (r, st')) (sz : Nat) : Met l yJ4_length_8abf5 wq_J4_length_8abf5 ({ frames := 1, cells := 0, slots := 0, locals := 24 }) (va_Pc [.ref (ad h0)] (PrC (dC, dI) ct ka ad st sz)) (va_Qi (fun r' (_ : Unit) => r' = r) (fun _ => CB (dC, dI) ct ka ad st' (aC ad st sz)) (aC ad st sz)) 0 0 (aC ad st sz) := by
  refine Met.ofW (cc := cJ4_length_8abf5) (maxL := 1) (ret := (some .int)) (by decide) rfl ?_
  intro p e s m args below meth c s₁ B hml hv
  obtain ⟨rfl, hsz, hw0, hK, hN, hZ, hC, hR, hL, hw1, hw2⟩ := hv
  have hx := B.exec
  have hb := B.bytes
  have hr := B.returns
  have hts := atoms_spec (ws := wq_J4_length_8abf5) B.pre
  have hown : s.vm.findClass RJ4 = some m.cls := findClass_of_methodNamed B.named
  subst hsz
  have hp : Cp (dC, dI) ka ad ct (aC ad st s.heap.size) s.heap st s.heap [] := ⟨fun i a b => ⟨hw0 i a b, Or.inl ⟨i, a, b, rfl⟩⟩, va_S.rf, hw1, hw2⟩
  generalize hAe : aC ad st s.heap.size = A at hp hZ hC ⊢
  have hA : ∀ q : Nat, s.heap.size ≤ q → A q := fun q h => by rw [← hAe]; exact Or.inr h
  have hl := lv_entry ([.ref (ad h0)]) (n := 1) (Nat.le_of_ble_eq_true rfl)
  rw [lg_entry_eq]
  generalize (lg_sl ([.ref (ad h0)]) ++ List.replicate (1 - (lg_sl ([.ref (ad h0)])).length) Slot.unset).toArray = ls at hl ⊢
  have hl : lv_has ls 1 [(0, .ref (ad h0))] := hl
  unfold fJ4_length_8abf5 at hf
  refine lv_aload_n hx hb dJ4_length_8abf5_0 rfl (lv_at hl 0 rfl) ?_
  obtain ⟨hk_1, hf⟩ := gd_some hf
  obtain ⟨r_4, st_2, hc_3, hf⟩ := bnd_some hf
  refine q_ci hp hA (va_runSU (As := []) (rest := []) (hK.1 1 _ rfl).2 ⟨hx, hb, hml, hown, hts⟩ (c_J5_length_8abf5 l dC dI ka ad ct h0 _ _ _ hc_3 _) (va_cwSU 0 hts gq_J4_length_8abf5_J5_length_8abf5_343 rfl rfl rfl (by decide +kernel) ⟨Nat.le_of_ble_eq_true rfl, Nat.le_of_ble_eq_true rfl⟩) ⟨PrC.blind _, q_rv1 hK hp hC hk_1, q_pre hp hK hN hZ hC hR hL hA⟩ rfl rfl hl.1 rfl (lv_room (Nat.le_of_ble_eq_true rfl)) dJ4_length_8abf5_1 ⟨Nat.le_of_ble_eq_true rfl, Nat.le_of_ble_eq_true rfl⟩) (fun H locs hp => ?_)
  have hk_1 : qk st_2 h0 = 2 := by rw [(mo_J5_length_8abf5 h0 _ _ _ hc_3).2.2.1]; exact hk_1
  obtain ⟨e1, e2⟩ := pr_some hf
  exact W.iret (v := r_4) hx hb hr (fun t ht hW => ⟨⟨r_4, (), rfl, e1, Cp.end e2 hp ht⟩, hp.2.1.F ht⟩) hp.2.1.2.2 dJ4_length_8abf5_4
noncomputable def fJ5_getValue_6d5f1 (h0 : Nat) (st : CS) : Option (Option Nat × CS) := gd (qk st h0 = 2) (some (qP st h0 0, st))
set_option maxHeartbeats 1000000 in
theorem mo_J5_getValue_6d5f1 (h0 : Nat) (st : CS) (r : Option Nat) (st' : CS) (hf : fJ5_getValue_6d5f1 h0 st = some (r, st')) : Ke st st' := by
  unfold fJ5_getValue_6d5f1 at hf
  have hm : Ke st st := Ke.rf
  obtain ⟨hk_1, hf⟩ := gd_some hf
  obtain ⟨e1, e2⟩ := pr_some hf
  exact e2 ▸ hm
def wq_J5_getValue_6d5f1 : List Cond := .code yJ5_getValue_6d5f1 cJ5_getValue_6d5f1 1 (some (.array .byte)) :: (([.fieldLink RJ5 15 "java/lang/AbstractStringBuilder" "value" "[B"] : List Cond) ++ wsJ40)
set_option maxHeartbeats 4000000 in
set_option maxRecDepth 100000 in
theorem c_J5_getValue_6d5f1 (l : Launch) (dC : Nat → ClassId) (dI : Nat → Nat → Nat) (ka ad : Nat → Nat) (ct : Nat → ClassId) (h0 : Nat) (st st' : CS) (r : Option Nat) (hf : fJ5_getValue_6d5f1 h0 st = some (r, st')) (sz : Nat) : Met l yJ5_getValue_6d5f1 wq_J5_getValue_6d5f1 ({ frames := 0, cells := 0, slots := 0, locals := 0 }) (va_Pc [.ref (ad h0)] (PrC (dC, dI) ct ka ad st sz)) (va_Qq (fun r' (_ : Unit) => r' = Option.map ad r) (fun _ => CB (dC, dI) ct ka ad st' (aC ad st sz)) (aC ad st sz)) 0 0 (aC ad st sz) := by
  refine Met.ofW (cc := cJ5_getValue_6d5f1) (maxL := 1) (ret := (some (.array .byte))) (by decide) rfl ?_
  intro p e s m args below meth c s₁ B hml hv
  obtain ⟨rfl, hsz, hw0, hK, hN, hZ, hC, hR, hL, hw1, hw2⟩ := hv
  have hx := B.exec
  have hb := B.bytes
  have hr := B.returns
  have hts := atoms_spec (ws := wq_J5_getValue_6d5f1) B.pre
  have hown : s.vm.findClass RJ5 = some m.cls := findClass_of_methodNamed B.named
  have iRJ4 : ∀ w ∈ u_ws RJ4 TJ4 4, w ∈ wq_J5_getValue_6d5f1 := fun w h => List.mem_cons_of_mem _ (List.mem_append_right _ h)
  subst hsz
  have hp : Cp (dC, dI) ka ad ct (aC ad st s.heap.size) s.heap st s.heap [] := ⟨fun i a b => ⟨hw0 i a b, Or.inl ⟨i, a, b, rfl⟩⟩, va_S.rf, hw1, hw2⟩
  generalize hAe : aC ad st s.heap.size = A at hp hZ hC ⊢
  have hA : ∀ q : Nat, s.heap.size ≤ q → A q := fun q h => by rw [← hAe]; exact Or.inr h
  have hl := lv_entry ([.ref (ad h0)]) (n := 1) (Nat.le_of_ble_eq_true rfl)
  rw [lg_entry_eq]
  generalize (lg_sl ([.ref (ad h0)]) ++ List.replicate (1 - (lg_sl ([.ref (ad h0)])).length) Slot.unset).toArray = ls at hl ⊢
  have hl : lv_has ls 1 [(0, .ref (ad h0))] := hl
  unfold fJ5_getValue_6d5f1 at hf
  refine lv_aload_n hx hb dJ5_getValue_6d5f1_0 rfl (lv_at hl 0 rfl) ?_
  obtain ⟨hk_1, hf⟩ := gd_some hf
  refine q_gp (ci := 1) (C := RJ4) (T := TJ4) (N := 4) (k := 0) hx hb hts iRJ4 hown hK hp hk_1 (by decide) rfl rfl (by decide) rfl (Or.inl (hts (.fieldLink RJ5 15 "java/lang/AbstractStringBuilder" "value" "[B") (by decide +kernel))) (fun _ h9 => h9) dJ5_getValue_6d5f1_1 ?_
  obtain ⟨e1, e2⟩ := pr_some hf
  exact W.aret (v := va_rf (Option.map ad (qP st h0 0))) hx hb hr (Or.inr ⟨_, rfl⟩) (rf_or _) (fun t ht hW => ⟨⟨Option.map ad (qP st h0 0), (), rfl, by rw [e1], Cp.end e2 hp ht⟩, hp.2.1.F ht⟩) hp.2.1.2.2 dJ5_getValue_6d5f1_4
noncomputable def fJ1_canEncode_fc78d (p0 : Int32) (st : CS) : Option (Int32 × CS) := pif (255 < p0) (some ((0 : Int32), st)) (some ((1 : Int32), st))
set_option maxHeartbeats 1000000 in
theorem mo_J1_canEncode_fc78d (p0 : Int32) (st : CS) (r : Int32) (st' : CS) (hf : fJ1_canEncode_fc78d p0 st = some (r, st')) : Ke st st' := by
  unfold fJ1_canEncode_fc78d at hf
  have hm : Ke st st := Ke.rf
  rcases pif_or hf with ⟨c_1, hf⟩ | ⟨c_1, hf⟩
  · obtain ⟨e1, e2⟩ := pr_some hf
    exact e2 ▸ hm
  · obtain ⟨e1, e2⟩ := pr_some hf
    exact e2 ▸ hm
def wq_J1_canEncode_fc78d : List Cond := .code yJ1_canEncode_fc78d cJ1_canEncode_fc78d 1 (some .boolean) :: ([])
set_option maxHeartbeats 4000000 in
set_option maxRecDepth 100000 in
theorem c_J1_canEncode_fc78d (l : Launch) (dC : Nat → ClassId) (dI : Nat → Nat → Nat) (ka ad : Nat → Nat) (ct : Nat → ClassId) (p0 : Int32) (st st' : CS) (r : Int32) (hf : fJ1_canEncode_fc78d p0 st = some (r, st')) (sz : Nat) : Met l yJ1_canEncode_fc78d wq_J1_canEncode_fc78d ({ frames := 0, cells := 0, slots := 0, locals := 0 }) (va_Pc [.int p0] (PrC (dC, dI) ct ka ad st sz)) (va_Qi (fun r' (_ : Unit) => r' = r) (fun _ => CB (dC, dI) ct ka ad st' (aC ad st sz)) (aC ad st sz)) 0 0 (aC ad st sz) := by
  refine Met.ofW (cc := cJ1_canEncode_fc78d) (maxL := 1) (ret := (some .boolean)) (by decide) rfl ?_
  intro p e s m args below meth c s₁ B hml hv
  obtain ⟨rfl, hsz, hw0, hK, hN, hZ, hC, hR, hL, hw1, hw2⟩ := hv
  have hx := B.exec
  have hb := B.bytes
  have hr := B.returns
  have hts := atoms_spec (ws := wq_J1_canEncode_fc78d) B.pre
  have hown : s.vm.findClass RJ1 = some m.cls := findClass_of_methodNamed B.named
  subst hsz
  have hp : Cp (dC, dI) ka ad ct (aC ad st s.heap.size) s.heap st s.heap [] := ⟨fun i a b => ⟨hw0 i a b, Or.inl ⟨i, a, b, rfl⟩⟩, va_S.rf, hw1, hw2⟩
  generalize hAe : aC ad st s.heap.size = A at hp hZ hC ⊢
  have hA : ∀ q : Nat, s.heap.size ≤ q → A q := fun q h => by rw [← hAe]; exact Or.inr h
  have hl := lv_entry ([.int p0]) (n := 1) (Nat.le_of_ble_eq_true rfl)
  rw [lg_entry_eq]
  generalize (lg_sl ([.int p0]) ++ List.replicate (1 - (lg_sl ([.int p0])).length) Slot.unset).toArray = ls at hl ⊢
  have hl : lv_has ls 1 [(0, .int p0)] := hl
  unfold fJ1_canEncode_fc78d at hf
  refine lv_iload_n hx hb dJ1_canEncode_fc78d_0 rfl (lv_at hl 0 rfl) ?_
  refine lv_sipush (v := 255) hx hb dJ1_canEncode_fc78d_1 (by decide) ?_
  refine lv_icmp_gt (tgt := 11) hx hb dJ1_canEncode_fc78d_4 (by decide) (fun c_1 => ?_) (fun c_1 => ?_)
  · have hf := pif_t c_1 hf
    refine lv_iconst (v := 0) hx hb dJ1_canEncode_fc78d_11 (by decide) ?_
    obtain ⟨e1, e2⟩ := pr_some hf
    exact W.zret (v := 0) hx hb hr rfl (fun t ht hW => ⟨⟨0, (), rfl, e1, Cp.end e2 hp ht⟩, hp.2.1.F ht⟩) hp.2.1.2.2 dJ1_canEncode_fc78d_12
  · have hf := pif_f c_1 hf
    refine lv_iconst (v := 1) hx hb dJ1_canEncode_fc78d_7 (by decide) ?_
    refine lv_goto (tgt := 12) hx hb dJ1_canEncode_fc78d_8 (by decide) ?_
    obtain ⟨e1, e2⟩ := pr_some hf
    exact W.zret (v := 1) hx hb hr rfl (fun t ht hW => ⟨⟨1, (), rfl, e1, Cp.end e2 hp ht⟩, hp.2.1.F ht⟩) hp.2.1.2.2 dJ1_canEncode_fc78d_12
noncomputable def fJ8_newLength_cabcc (p0 : Int32) (p1 : Int32) (p2 : Int32) (st : CS) : Option (Int32 × CS) := nam (p0 + (if p1 < p2 then p2 else p1)) (fun v_1 => pif (v_1 ≤ (0 : Int32)) (none) (pif (2147483639 < v_1) (none) (some (v_1, st))))
set_option maxHeartbeats 1000000 in
theorem mo_J8_newLength_cabcc (p0 : Int32) (p1 : Int32) (p2 : Int32) (st : CS) (r : Int32) (st' : CS) (hf : fJ8_newLength_cabcc p0 p1 p2 st = some (r, st')) : Ke st st' := by
  unfold fJ8_newLength_cabcc at hf
  have hm : Ke st st := Ke.rf
  obtain ⟨v_1, ev_1, hf⟩ := nam_some hf
  rcases pif_or hf with ⟨c_2, hf⟩ | ⟨c_2, hf⟩
  · cases hf
  · rcases pif_or hf with ⟨c_3, hf⟩ | ⟨c_3, hf⟩
    · cases hf
    · obtain ⟨e1, e2⟩ := pr_some hf
      exact e2 ▸ hm
def wq_J8_newLength_cabcc : List Cond := .code yJ8_newLength_cabcc cJ8_newLength_cabcc 4 (some .int) :: ([.methodLink RJ8 194 Lib.Math.max.name, .static Lib.Math.max.name, .initialized "java/lang/Math", .code Lib.Math.max.name Lib.Math.max.code 2 (some .int), .constant RJ8 200 (2147483639)])
set_option maxHeartbeats 4000000 in
set_option maxRecDepth 100000 in
theorem c_J8_newLength_cabcc (l : Launch) (dC : Nat → ClassId) (dI : Nat → Nat → Nat) (ka ad : Nat → Nat) (ct : Nat → ClassId) (p0 : Int32) (p1 : Int32) (p2 : Int32) (st st' : CS) (r : Int32) (hf : fJ8_newLength_cabcc p0 p1 p2 st = some (r, st')) (sz : Nat) : Met l yJ8_newLength_cabcc wq_J8_newLength_cabcc ({ frames := 1, cells := 0, slots := 0, locals := 44 }) (va_Pc [.int p0, .int p1, .int p2] (PrC (dC, dI) ct ka ad st sz)) (va_Qi (fun r' (_ : Unit) => r' = r) (fun _ => CB (dC, dI) ct ka ad st' (aC ad st sz)) (aC ad st sz)) 0 0 (aC ad st sz) := by
  refine Met.ofW (cc := cJ8_newLength_cabcc) (maxL := 4) (ret := (some .int)) (by decide) rfl ?_
  intro p e s m args below meth c s₁ B hml hv
  obtain ⟨rfl, hsz, hw0, hK, hN, hZ, hC, hR, hL, hw1, hw2⟩ := hv
  have hx := B.exec
  have hb := B.bytes
  have hr := B.returns
  have hts := atoms_spec (ws := wq_J8_newLength_cabcc) B.pre
  have hown : s.vm.findClass RJ8 = some m.cls := findClass_of_methodNamed B.named
  subst hsz
  have hp : Cp (dC, dI) ka ad ct (aC ad st s.heap.size) s.heap st s.heap [] := ⟨fun i a b => ⟨hw0 i a b, Or.inl ⟨i, a, b, rfl⟩⟩, va_S.rf, hw1, hw2⟩
  generalize hAe : aC ad st s.heap.size = A at hp hZ hC ⊢
  have hA : ∀ q : Nat, s.heap.size ≤ q → A q := fun q h => by rw [← hAe]; exact Or.inr h
  have hl := lv_entry ([.int p0, .int p1, .int p2]) (n := 4) (Nat.le_of_ble_eq_true rfl)
  rw [lg_entry_eq]
  generalize (lg_sl ([.int p0, .int p1, .int p2]) ++ List.replicate (4 - (lg_sl ([.int p0, .int p1, .int p2])).length) Slot.unset).toArray = ls at hl ⊢
  have hl : lv_has ls 4 [(0, .int p0), (1, .int p1), (2, .int p2)] := hl
  unfold fJ8_newLength_cabcc at hf
  refine lv_iload_n hx hb dJ8_newLength_cabcc_0 rfl (lv_at hl 0 rfl) ?_
  refine lv_iload_n hx hb dJ8_newLength_cabcc_1 rfl (lv_at hl 1 rfl) ?_
  refine lv_iload_n hx hb dJ8_newLength_cabcc_2 rfl (lv_at hl 2 rfl) ?_
  refine va_mmax hx hb (by rw [hml]; exact hl.1.symm) hown (hts (.methodLink RJ8 194 Lib.Math.max.name) (by decide +kernel)) (hts (.static Lib.Math.max.name) (by decide +kernel)) (hts (.initialized "java/lang/Math") (by decide +kernel)) (hts (.code Lib.Math.max.name Lib.Math.max.code 2 (some .int)) (by decide +kernel)) (Nat.le_of_ble_eq_true rfl) (Nat.le_of_ble_eq_true rfl) (Nat.le_of_ble_eq_true rfl) (Nat.le_of_ble_eq_true rfl) dJ8_newLength_cabcc_3 ?_
  refine lv_iadd hx hb dJ8_newLength_cabcc_6 ?_
  obtain ⟨v_1, ev_1, hf⟩ := nam_some hf
  refine W_toi (y := v_1) ev_1.symm ?_
  refine lv_istore_n (i := 3) (lv' := [(3, .int v_1), (0, .int p0), (1, .int p1), (2, .int p2)]) hx hb dJ8_newLength_cabcc_7 rfl hl (by decide) rfl (fun ls hl => ?_)
  refine lv_iconst (v := 0) hx hb dJ8_newLength_cabcc_8 (by decide) ?_
  refine lv_iload_n hx hb dJ8_newLength_cabcc_9 rfl (lv_at hl 0 rfl) ?_
  refine lv_icmp_ge (tgt := 21) hx hb dJ8_newLength_cabcc_10 (by decide) (fun c_2 => ?_) (fun c_2 => ?_)
  · have hf := pif_t c_2 hf
    cases hf
  · have hf := pif_f c_2 hf
    refine lv_iload_n hx hb dJ8_newLength_cabcc_13 rfl (lv_at hl 0 rfl) ?_
    refine lv_ldc hx hb hown (hts (.constant RJ8 200 (2147483639)) (by decide +kernel)) dJ8_newLength_cabcc_14 ?_
    refine lv_icmp_gt (tgt := 21) hx hb dJ8_newLength_cabcc_16 (by decide) (fun c_3 => ?_) (fun c_3 => ?_)
    · have hf := pif_t c_3 hf
      cases hf
    · have hf := pif_f c_3 hf
      refine lv_iload_n hx hb dJ8_newLength_cabcc_19 rfl (lv_at hl 0 rfl) ?_
      obtain ⟨e1, e2⟩ := pr_some hf
      exact W.iret (v := v_1) hx hb hr (fun t ht hW => ⟨⟨v_1, (), rfl, e1, Cp.end e2 hp ht⟩, hp.2.1.F ht⟩) hp.2.1.2.2 dJ8_newLength_cabcc_20
noncomputable def fJ5_newCapacity_0f7a4 (h0 : Nat) (p0 : Int32) (st : CS) : Option (Int32 × CS) := gd (qk st h0 = 2) (ono (qP st h0 0) (fun a_2 => gd (qk st a_2 = 22) (nam (nI (ql st a_2)) (fun v_5 => nam (p0 <<< ((qI st h0 1) &&& 31)) (fun v_6 => nam (v_6 - v_5) (fun v_7 => bnd (fJ8_newLength_cabcc v_5 v_7 (v_5 + ((2 : Int32) <<< ((qI st h0 1) &&& 31))) st) (fun r_10 st_8 => pif (r_10 = 2147483647) (none) (some (r_10 >>> ((qI st_8 h0 1) &&& 31), st_8)))))))))
set_option maxHeartbeats 1000000 in
theorem mo_J5_newCapacity_0f7a4 (h0 : Nat) (p0 : Int32) (st : CS) (r : Int32) (st' : CS) (hf : fJ5_newCapacity_0f7a4 h0 p0 st = some (r, st')) : Ke st st' := by
  unfold fJ5_newCapacity_0f7a4 at hf
  have hm : Ke st st := Ke.rf
  obtain ⟨hk_1, hf⟩ := gd_some hf
  obtain ⟨a_2, ha_3, hf⟩ := ono_some hf
  obtain ⟨hk_4, hf⟩ := gd_some hf
  obtain ⟨v_5, ev_5, hf⟩ := nam_some hf
  obtain ⟨v_6, ev_6, hf⟩ := nam_some hf
  obtain ⟨v_7, ev_7, hf⟩ := nam_some hf
  obtain ⟨r_10, st_8, hc_9, hf⟩ := bnd_some hf
  have hm := hm.tr (mo_J8_newLength_cabcc v_5 v_7 (v_5 + ((2 : Int32) <<< ((qI st h0 1) &&& 31))) _ _ _ hc_9)
  rcases pif_or hf with ⟨c_11, hf⟩ | ⟨c_11, hf⟩
  · cases hf
  · obtain ⟨e1, e2⟩ := pr_some hf
    exact e2 ▸ hm
def wq_J5_newCapacity_0f7a4 : List Cond := .code yJ5_newCapacity_0f7a4 cJ5_newCapacity_0f7a4 6 (some .int) :: (([.fieldLink RJ5 15 "java/lang/AbstractStringBuilder" "value" "[B", .fieldLink RJ5 22 "java/lang/AbstractStringBuilder" "coder" "B", .constant RJ5 39 (2147483647), .methodLink RJ5 114 yJ8_newLength_cabcc, .static yJ8_newLength_cabcc, .initialized RJ8, .code yJ8_newLength_cabcc cJ8_newLength_cabcc 4 (some .int), .methodLink RJ8 194 Lib.Math.max.name, .static Lib.Math.max.name, .initialized "java/lang/Math", .code Lib.Math.max.name Lib.Math.max.code 2 (some .int), .constant RJ8 200 (2147483639)] : List Cond) ++ wsJ40)
set_option maxRecDepth 20000 in
theorem gq_J5_newCapacity_0f7a4_J8_newLength_cabcc_114 : GoodIn wq_J5_newCapacity_0f7a4 (va_wsS RJ5 114 yJ8_newLength_cabcc wq_J8_newLength_cabcc) := goodIn_app (goodIn_r _ [4, 5, 6] rfl rfl) (goodIn_r _ [7, 8, 9, 10, 11, 12] rfl rfl)
set_option maxHeartbeats 4000000 in
set_option maxRecDepth 100000 in
theorem c_J5_newCapacity_0f7a4 (l : Launch) (dC : Nat → ClassId) (dI : Nat → Nat → Nat) (ka ad : Nat → Nat) (ct : Nat → ClassId) (h0 : Nat) (p0 : Int32) (st st' : CS) (r : Int32) (hf : fJ5_newCapacity_0f7a4 h0 p0 st = some (r, st')) (sz : Nat) : Met l yJ5_newCapacity_0f7a4 wq_J5_newCapacity_0f7a4 ({ frames := 2, cells := 0, slots := 0, locals := 71 }) (va_Pc [.ref (ad h0), .int p0] (PrC (dC, dI) ct ka ad st sz)) (va_Qi (fun r' (_ : Unit) => r' = r) (fun _ => CB (dC, dI) ct ka ad st' (aC ad st sz)) (aC ad st sz)) 0 0 (aC ad st sz) := by
  refine Met.ofW (cc := cJ5_newCapacity_0f7a4) (maxL := 6) (ret := (some .int)) (by decide) rfl ?_
  intro p e s m args below meth c s₁ B hml hv
  obtain ⟨rfl, hsz, hw0, hK, hN, hZ, hC, hR, hL, hw1, hw2⟩ := hv
  have hx := B.exec
  have hb := B.bytes
  have hr := B.returns
  have hts := atoms_spec (ws := wq_J5_newCapacity_0f7a4) B.pre
  have hown : s.vm.findClass RJ5 = some m.cls := findClass_of_methodNamed B.named
  have iRJ4 : ∀ w ∈ u_ws RJ4 TJ4 4, w ∈ wq_J5_newCapacity_0f7a4 := fun w h => List.mem_cons_of_mem _ (List.mem_append_right _ h)
  subst hsz
  have hp : Cp (dC, dI) ka ad ct (aC ad st s.heap.size) s.heap st s.heap [] := ⟨fun i a b => ⟨hw0 i a b, Or.inl ⟨i, a, b, rfl⟩⟩, va_S.rf, hw1, hw2⟩
  generalize hAe : aC ad st s.heap.size = A at hp hZ hC ⊢
  have hA : ∀ q : Nat, s.heap.size ≤ q → A q := fun q h => by rw [← hAe]; exact Or.inr h
  have hl := lv_entry ([.ref (ad h0), .int p0]) (n := 6) (Nat.le_of_ble_eq_true rfl)
  rw [lg_entry_eq]
  generalize (lg_sl ([.ref (ad h0), .int p0]) ++ List.replicate (6 - (lg_sl ([.ref (ad h0), .int p0])).length) Slot.unset).toArray = ls at hl ⊢
  have hl : lv_has ls 6 [(0, .ref (ad h0)), (1, .int p0)] := hl
  unfold fJ5_newCapacity_0f7a4 at hf
  refine lv_aload_n hx hb dJ5_newCapacity_0f7a4_0 rfl (lv_at hl 0 rfl) ?_
  obtain ⟨hk_1, hf⟩ := gd_some hf
  refine q_gp (ci := 1) (C := RJ4) (T := TJ4) (N := 4) (k := 0) hx hb hts iRJ4 hown hK hp hk_1 (by decide) rfl rfl (by decide) rfl (Or.inl (hts (.fieldLink RJ5 15 "java/lang/AbstractStringBuilder" "value" "[B") (by decide +kernel))) (fun _ h9 => h9) dJ5_newCapacity_0f7a4_1 ?_
  obtain ⟨a_2, ha_3, hf⟩ := ono_some hf
  refine o_at ha_3 ?_
  obtain ⟨hk_4, hf⟩ := gd_some hf
  refine q_lenb hx hb hK hp hC hk_4 dJ5_newCapacity_0f7a4_4 ?_
  obtain ⟨v_5, ev_5, hf⟩ := nam_some hf
  refine W_toi (y := v_5) ev_5.symm ?_
  refine lv_istore_n (i := 2) (lv' := [(2, .int v_5), (0, .ref (ad h0)), (1, .int p0)]) hx hb dJ5_newCapacity_0f7a4_5 rfl hl (by decide) rfl (fun ls hl => ?_)
  refine lv_iload_n hx hb dJ5_newCapacity_0f7a4_6 rfl (lv_at hl 2 rfl) ?_
  refine lv_aload_n hx hb dJ5_newCapacity_0f7a4_7 rfl (lv_at hl 1 rfl) ?_
  refine q_gi (ci := 1) (C := RJ4) (T := TJ4) (N := 4) (k := 1) hx hb hts iRJ4 hown hK hp hk_1 (by decide) rfl rfl (by decide) rfl (Or.inl (hts (.fieldLink RJ5 22 "java/lang/AbstractStringBuilder" "coder" "B") (by decide +kernel))) (fun _ h9 => h9) dJ5_newCapacity_0f7a4_8 ?_
  refine lv_ishl hx hb dJ5_newCapacity_0f7a4_11 ?_
  obtain ⟨v_6, ev_6, hf⟩ := nam_some hf
  refine W_toi (y := v_6) ev_6.symm ?_
  refine lv_istore_n (i := 3) (lv' := [(3, .int v_6), (2, .int v_5), (0, .ref (ad h0)), (1, .int p0)]) hx hb dJ5_newCapacity_0f7a4_12 rfl hl (by decide) rfl (fun ls hl => ?_)
  refine lv_iload_n hx hb dJ5_newCapacity_0f7a4_13 rfl (lv_at hl 0 rfl) ?_
  refine lv_iload_n hx hb dJ5_newCapacity_0f7a4_14 rfl (lv_at hl 1 rfl) ?_
  refine lv_isub hx hb dJ5_newCapacity_0f7a4_15 ?_
  obtain ⟨v_7, ev_7, hf⟩ := nam_some hf
  refine W_toi (y := v_7) ev_7.symm ?_
  refine lv_istore (i := 4) (lv' := [(4, .int v_7), (3, .int v_6), (2, .int v_5), (0, .ref (ad h0)), (1, .int p0)]) hx hb dJ5_newCapacity_0f7a4_16 hl (by decide) rfl (fun ls hl => ?_)
  refine lv_iload_n hx hb dJ5_newCapacity_0f7a4_18 rfl (lv_at hl 2 rfl) ?_
  refine lv_iload hx hb dJ5_newCapacity_0f7a4_19 (lv_at hl 0 rfl) ?_
  refine lv_iload_n hx hb dJ5_newCapacity_0f7a4_21 rfl (lv_at hl 2 rfl) ?_
  refine lv_iconst (v := 2) hx hb dJ5_newCapacity_0f7a4_22 (by decide) ?_
  refine lv_aload_n hx hb dJ5_newCapacity_0f7a4_23 rfl (lv_at hl 3 rfl) ?_
  refine q_gi (ci := 1) (C := RJ4) (T := TJ4) (N := 4) (k := 1) hx hb hts iRJ4 hown hK hp hk_1 (by decide) rfl rfl (by decide) rfl (Or.inl (hts (.fieldLink RJ5 22 "java/lang/AbstractStringBuilder" "coder" "B") (by decide +kernel))) (fun _ h9 => h9) dJ5_newCapacity_0f7a4_24 ?_
  refine lv_ishl hx hb dJ5_newCapacity_0f7a4_27 ?_
  refine lv_iadd hx hb dJ5_newCapacity_0f7a4_28 ?_
  obtain ⟨r_10, st_8, hc_9, hf⟩ := bnd_some hf
  refine q_ci hp hA (va_runS (As := [.int v_5, .int v_7, .int (v_5 + ((2 : Int32) <<< ((qI st h0 1) &&& 31)))]) (rest := []) ⟨hx, hb, hml, hown, hts⟩ (c_J8_newLength_cabcc l dC dI ka ad ct v_5 v_7 (v_5 + ((2 : Int32) <<< ((qI st h0 1) &&& 31))) _ _ _ hc_9 _) (va_cwS 3 hts gq_J5_newCapacity_0f7a4_J8_newLength_cabcc_114 rfl rfl rfl (by decide +kernel) ⟨Nat.le_of_ble_eq_true rfl, Nat.le_of_ble_eq_true rfl⟩) ⟨PrC.blind _, q_pre hp hK hN hZ hC hR hL hA⟩ rfl rfl hl.1 rfl (lv_room (Nat.le_of_ble_eq_true rfl)) dJ5_newCapacity_0f7a4_29 ⟨Nat.le_of_ble_eq_true rfl, Nat.le_of_ble_eq_true rfl⟩) (fun H locs hp => ?_)
  have hk_1 : qk st_8 h0 = 2 := by rw [(mo_J8_newLength_cabcc v_5 v_7 (v_5 + ((2 : Int32) <<< ((qI st h0 1) &&& 31))) _ _ _ hc_9).2.2.1]; exact hk_1
  have hk_4 : qk st_8 a_2 = 22 := by rw [(mo_J8_newLength_cabcc v_5 v_7 (v_5 + ((2 : Int32) <<< ((qI st h0 1) &&& 31))) _ _ _ hc_9).2.2.1]; exact hk_4
  refine lv_istore (i := 5) (lv' := [(5, .int r_10), (4, .int v_7), (3, .int v_6), (2, .int v_5), (0, .ref (ad h0)), (1, .int p0)]) hx hb dJ5_newCapacity_0f7a4_32 hl (by decide) rfl (fun ls hl => ?_)
  refine lv_iload hx hb dJ5_newCapacity_0f7a4_34 (lv_at hl 0 rfl) ?_
  refine lv_ldc hx hb hown (hts (.constant RJ5 39 (2147483647)) (by decide +kernel)) dJ5_newCapacity_0f7a4_36 ?_
  refine lv_icmp_ne (tgt := 51) hx hb dJ5_newCapacity_0f7a4_38 (by decide) (fun c_11 => ?_) (fun c_11 => ?_)
  · have hf := pif_f c_11 hf
    refine lv_iload hx hb dJ5_newCapacity_0f7a4_51 (lv_at hl 0 rfl) ?_
    refine lv_aload_n hx hb dJ5_newCapacity_0f7a4_53 rfl (lv_at hl 4 rfl) ?_
    refine q_gi (ci := 1) (C := RJ4) (T := TJ4) (N := 4) (k := 1) hx hb hts iRJ4 hown hK hp hk_1 (by decide) rfl rfl (by decide) rfl (Or.inl (hts (.fieldLink RJ5 22 "java/lang/AbstractStringBuilder" "coder" "B") (by decide +kernel))) (fun _ h9 => h9) dJ5_newCapacity_0f7a4_54 ?_
    refine lv_ishr hx hb dJ5_newCapacity_0f7a4_57 ?_
    obtain ⟨e1, e2⟩ := pr_some hf
    exact W.iret (v := r_10 >>> ((qI st_8 h0 1) &&& 31)) hx hb hr (fun t ht hW => ⟨⟨r_10 >>> ((qI st_8 h0 1) &&& 31), (), rfl, e1, Cp.end e2 hp ht⟩, hp.2.1.F ht⟩) hp.2.1.2.2 dJ5_newCapacity_0f7a4_58
  · have hf := pif_t c_11 hf
    cases hf
noncomputable def fJ7_copyOf_9075b_31  (l2 : Option Nat) (gs : CS) : Option (Option Nat × CS) := some (l2, gs)
set_option maxHeartbeats 1000000 in
theorem mo_J7_copyOf_9075b_31   (l2 : Option Nat) (gs : CS) (r : Option Nat) (st' : CS) (hf : fJ7_copyOf_9075b_31  l2 gs = some (r, st')) : Mo gs st' := by
  unfold fJ7_copyOf_9075b_31 at hf
  have hm : Mo gs gs := Mo.rf
  obtain ⟨e1, e2⟩ := pr_some hf
  exact e2 ▸ hm
noncomputable def fJ7_copyOf_9075b_28  (l2 : Option Nat) (s0 : Int32) (s1 : Int32) (s2 : Option Nat) (s3 : Int32) (s4 : Option Nat) (gs : CS) : Option (Option Nat × CS) := ono s2 (fun a_1 => gd (qk gs a_1 = 22) (ono s4 (fun a_4 => gd (qk gs a_4 = 22) (gd (32 ≤ a_4 ∧ 32 ≤ a_1 ∧ ¬ s3 < 0 ∧ ¬ s1 < 0 ∧ ¬ s0 < 0 ∧ s3.toNatClampNeg + s0.toNatClampNeg ≤ ql gs a_4 ∧ s1.toNatClampNeg + s0.toNatClampNeg ≤ ql gs a_1 ∧ ∀ x, x < s0.toNatClampNeg → fits .byte (.int (qI gs a_4 (s3.toNatClampNeg + x))) = true) (nam (wF gs a_1 (va_cpy (qI gs a_4) (qI gs a_1) s3.toNatClampNeg s1.toNatClampNeg s0.toNatClampNeg)) (fun st_8 => fJ7_copyOf_9075b_31  l2 st_8))))))
set_option maxHeartbeats 1000000 in
theorem mo_J7_copyOf_9075b_28   (l2 : Option Nat) (s0 : Int32) (s1 : Int32) (s2 : Option Nat) (s3 : Int32) (s4 : Option Nat) (gs : CS) (r : Option Nat) (st' : CS) (hf : fJ7_copyOf_9075b_28  l2 s0 s1 s2 s3 s4 gs = some (r, st')) : Mo gs st' := by
  unfold fJ7_copyOf_9075b_28 at hf
  have hm : Mo gs gs := Mo.rf
  obtain ⟨a_1, ha_2, hf⟩ := ono_some hf
  obtain ⟨hk_3, hf⟩ := gd_some hf
  obtain ⟨a_4, ha_5, hf⟩ := ono_some hf
  obtain ⟨hk_6, hf⟩ := gd_some hf
  obtain ⟨g_7, hf⟩ := gd_some hf
  obtain ⟨st_8, est_8, hf⟩ := nam_some hf
  have hm := hm.wF est_8
  exact hm.tr (mo_J7_copyOf_9075b_31  l2 st_8 _ _ hf)
noncomputable def fJ7_copyOf_9075b_17  (l0 : Option Nat) (l1 : Int32) (s0 : Option Nat) (gs : CS) : Option (Option Nat × CS) := ono l0 (fun a_9 => gd (qk gs a_9 = 22) (fJ7_copyOf_9075b_28  s0 (if l1 < (nI (ql gs a_9)) then l1 else (nI (ql gs a_9))) 0 s0 0 l0 gs))
set_option maxHeartbeats 1000000 in
theorem mo_J7_copyOf_9075b_17   (l0 : Option Nat) (l1 : Int32) (s0 : Option Nat) (gs : CS) (r : Option Nat) (st' : CS) (hf : fJ7_copyOf_9075b_17  l0 l1 s0 gs = some (r, st')) : Mo gs st' := by
  unfold fJ7_copyOf_9075b_17 at hf
  have hm : Mo gs gs := Mo.rf
  obtain ⟨a_9, ha_10, hf⟩ := ono_some hf
  obtain ⟨hk_11, hf⟩ := gd_some hf
  exact hm.tr (mo_J7_copyOf_9075b_28  s0 (if l1 < (nI (ql gs a_9)) then l1 else (nI (ql gs a_9))) 0 s0 0 l0 gs _ _ hf)
noncomputable def fJ7_copyOf_9075b (p0 : Option Nat) (p1 : Int32) (st : CS) : Option (Option Nat × CS) := ono p0 (fun a_12 => gd (qk st a_12 = 22) (pif (p1 = (nI (ql st a_12))) (none) (gd (¬ p1 < 0 ∧ p1.toNatClampNeg * 1 ≤ 536870912) (nam (wN st 22 p1.toNatClampNeg p1.toNatClampNeg) (fun st_17 => fJ7_copyOf_9075b_17  p0 p1 (some (qn st)) st_17)))))
set_option maxHeartbeats 1000000 in
theorem mo_J7_copyOf_9075b (p0 : Option Nat) (p1 : Int32) (st : CS) (r : Option Nat) (st' : CS) (hf : fJ7_copyOf_9075b p0 p1 st = some (r, st')) : Mo st st' := by
  unfold fJ7_copyOf_9075b at hf
  have hm : Mo st st := Mo.rf
  obtain ⟨a_12, ha_13, hf⟩ := ono_some hf
  obtain ⟨hk_14, hf⟩ := gd_some hf
  rcases pif_or hf with ⟨c_15, hf⟩ | ⟨c_15, hf⟩
  · cases hf
  · obtain ⟨g_16, hf⟩ := gd_some hf
    obtain ⟨st_17, est_17, hf⟩ := nam_some hf
    have hm := hm.wN est_17
    exact hm.tr (mo_J7_copyOf_9075b_17  p0 p1 (some (qn st)) st_17 _ _ hf)
def wq_J7_copyOf_9075b : List Cond := .code yJ7_copyOf_9075b cJ7_copyOf_9075b 3 (some (.array .byte)) :: ([.methodLink RJ7 304 Lib.Math.min.name, .static Lib.Math.min.name, .initialized "java/lang/Math", .code Lib.Math.min.name Lib.Math.min.code 2 (some .int), .methodLink RJ7 150 arraycopyName, .native arraycopyName, .static arraycopyName, .initialized "java/lang/System", .arrayClass .byte])
set_option maxHeartbeats 4000000 in
set_option maxRecDepth 100000 in
theorem c_J7_copyOf_9075b (l : Launch) (dC : Nat → ClassId) (dI : Nat → Nat → Nat) (ka ad : Nat → Nat) (ct : Nat → ClassId) (p0 : Option Nat) (p1 : Int32) (st st' : CS) (r : Option Nat) (hf : fJ7_copyOf_9075b p0 p1 st = some (r, st')) (sz : Nat) : Met l yJ7_copyOf_9075b wq_J7_copyOf_9075b ({ frames := 1, cells := (qn st' - qn st), slots := (qs st' - qs st), locals := 44 }) (va_Pc [va_rf (Option.map ad p0), .int p1] (PrC (dC, dI) ct ka ad st sz)) (va_Qq (fun r' (_ : Unit) => r' = Option.map ad r) (fun _ => CB (dC, dI) ct ka ad st' (aC ad st sz)) (aC ad st sz)) (qn st' - qn st) (qs st' - qs st) (aC ad st sz) := by
  refine Met.ofW (cc := cJ7_copyOf_9075b) (maxL := 3) (ret := (some (.array .byte))) (by decide) rfl ?_
  intro p e s m args below meth c s₁ B hml hv
  obtain ⟨rfl, hsz, hw0, hK, hN, hZ, hC, hR, hL, hw1, hw2⟩ := hv
  have hx := B.exec
  have hb := B.bytes
  have hr := B.returns
  have hts := atoms_spec (ws := wq_J7_copyOf_9075b) B.pre
  have hown : s.vm.findClass RJ7 = some m.cls := findClass_of_methodNamed B.named
  subst hsz
  have hp : Cp (dC, dI) ka ad ct (aC ad st s.heap.size) s.heap st s.heap [] := ⟨fun i a b => ⟨hw0 i a b, Or.inl ⟨i, a, b, rfl⟩⟩, va_S.rf, hw1, hw2⟩
  generalize hAe : aC ad st s.heap.size = A at hp hZ hC ⊢
  have hA : ∀ q : Nat, s.heap.size ≤ q → A q := fun q h => by rw [← hAe]; exact Or.inr h
  have hl := lv_entry ([va_rf (Option.map ad p0), .int p1]) (n := 3) (by simp [lg_sl, rf_cat, vc_i, vc_l, vc_r, vc_n])
  rw [lg_entry_eq]
  generalize (lg_sl ([va_rf (Option.map ad p0), .int p1]) ++ List.replicate (3 - (lg_sl ([va_rf (Option.map ad p0), .int p1])).length) Slot.unset).toArray = ls at hl ⊢
  have hl : lv_has ls 3 [(0, va_rf (Option.map ad p0)), (1, .int p1)] := by simpa [lv_args, rf_cat, vc_i, vc_l, vc_r, vc_n] using hl
  have hm : Mo st st := Mo.rf
  refine W.widen (k := qn st - qn st) (n := qs st - qs st) (Nat.zero_le _) (Nat.zero_le _) ?_
  refine W_blkA (fun (u : (Option Nat) × CS) H locs ls => match u with | (l2, gs) => fJ7_copyOf_9075b_31  l2 gs = some (r, st') ∧ Cp (dC, dI) ka ad ct A s.heap gs H locs ∧ lv_has ls 3 [(2, va_rf (Option.map ad l2))] ∧ Mo st gs) (fun (u : (Option Nat) × CS) ls => match u with | (l2, gs) => F0 m 31 ls []) (fun (u : (Option Nat) × CS) => match u with | (l2, gs) => qn gs - qn st) (fun (u : (Option Nat) × CS) => match u with | (l2, gs) => qs gs - qs st) ?_ (fun J31 => ?_)
  · intro u H locs ls hu
    obtain ⟨l2, gs⟩ := u
    obtain ⟨hf, hp, hl, hm⟩ := hu
    show W p l e _ s m _ below meth c _ _ (qn gs - qn st) (qs gs - qs st) _ (F0 m 31 ls [])
    unfold fJ7_copyOf_9075b_31 at hf
    refine o_aload_n hx hb dJ7_copyOf_9075b_31 rfl (lv_at hl 0 rfl) ?_
    obtain ⟨e1, e2⟩ := pr_some hf
    refine W.widen (k := qn st' - qn st) (n := qs st' - qs st) (by rw [e2]; exact Nat.le_refl _) (by rw [e2]; exact Nat.le_refl _) ?_
    exact W.aret (v := va_rf (Option.map ad l2)) hx hb hr (Or.inr ⟨_, rfl⟩) (rf_or _) (fun t ht hW => ⟨⟨Option.map ad l2, (), rfl, by rw [e1], Cp.end e2 hp ht⟩, hp.2.1.F ht⟩) hp.2.1.2.2 dJ7_copyOf_9075b_32
  refine W_blkA (fun (u : (Option Nat) × Int32 × Int32 × (Option Nat) × Int32 × (Option Nat) × CS) H locs ls => match u with | (l2, s0, s1, s2, s3, s4, gs) => fJ7_copyOf_9075b_28  l2 s0 s1 s2 s3 s4 gs = some (r, st') ∧ Cp (dC, dI) ka ad ct A s.heap gs H locs ∧ lv_has ls 3 [(2, va_rf (Option.map ad l2))] ∧ Mo st gs) (fun (u : (Option Nat) × Int32 × Int32 × (Option Nat) × Int32 × (Option Nat) × CS) ls => match u with | (l2, s0, s1, s2, s3, s4, gs) => F0 m 28 ls [.int s0, .int s1, va_rf (Option.map ad s2), .int s3, va_rf (Option.map ad s4)]) (fun (u : (Option Nat) × Int32 × Int32 × (Option Nat) × Int32 × (Option Nat) × CS) => match u with | (l2, s0, s1, s2, s3, s4, gs) => qn gs - qn st) (fun (u : (Option Nat) × Int32 × Int32 × (Option Nat) × Int32 × (Option Nat) × CS) => match u with | (l2, s0, s1, s2, s3, s4, gs) => qs gs - qs st) ?_ (fun J28 => ?_)
  · intro u H locs ls hu
    obtain ⟨l2, s0, s1, s2, s3, s4, gs⟩ := u
    obtain ⟨hf, hp, hl, hm⟩ := hu
    show W p l e _ s m _ below meth c _ _ (qn gs - qn st) (qs gs - qs st) _ (F0 m 28 ls [.int s0, .int s1, va_rf (Option.map ad s2), .int s3, va_rf (Option.map ad s4)])
    unfold fJ7_copyOf_9075b_28 at hf
    obtain ⟨a_1, ha_2, hf⟩ := ono_some hf
    refine o_at2 ha_2 ?_
    obtain ⟨hk_3, hf⟩ := gd_some hf
    obtain ⟨a_4, ha_5, hf⟩ := ono_some hf
    refine o_at4 ha_5 ?_
    obtain ⟨hk_6, hf⟩ := gd_some hf
    obtain ⟨g_7, hf⟩ := gd_some hf
    refine q_copy hx hb (by rw [hml]; exact hl.1.symm) hown (hts (.methodLink RJ7 150 arraycopyName) (by decide +kernel)) (hts (.native arraycopyName) (by decide +kernel)) (hts (.static arraycopyName) (by decide +kernel)) (hts (.initialized "java/lang/System") (by decide +kernel)) hK hp g_7.1 g_7.2.1 hk_6 hk_3 g_7.2.2.1 g_7.2.2.2.1 g_7.2.2.2.2.1 g_7.2.2.2.2.2.1 g_7.2.2.2.2.2.2.1 g_7.2.2.2.2.2.2.2 (Nat.le_of_ble_eq_true rfl) (Nat.le_of_ble_eq_true rfl) dJ7_copyOf_9075b_28 (fun H locs hp => ?_)
    obtain ⟨st_8, est_8, hf⟩ := nam_some hf
    rw [← est_8] at hp
    have hm := hm.wF est_8
    refine W.widen (k := qn st_8 - qn st) (n := qs st_8 - qs st) (by rw [est_8]; exact Nat.le_refl _) (by rw [est_8]; exact Nat.le_refl _) ?_
    have hk_3 : qk st_8 a_1 = 22 := by rw [est_8]; exact hk_3
    have hk_6 : qk st_8 a_4 = 22 := by rw [est_8]; exact hk_6
    exact J31 (l2, st_8) _ _ _ ⟨hf, hp, (lv_sub hl [0] rfl), hm⟩
  refine W_blkA (fun (u : (Option Nat) × Int32 × (Option Nat) × CS) H locs ls => match u with | (l0, l1, s0, gs) => fJ7_copyOf_9075b_17  l0 l1 s0 gs = some (r, st') ∧ Cp (dC, dI) ka ad ct A s.heap gs H locs ∧ lv_has ls 3 [(0, va_rf (Option.map ad l0)), (1, .int l1)] ∧ Mo st gs) (fun (u : (Option Nat) × Int32 × (Option Nat) × CS) ls => match u with | (l0, l1, s0, gs) => F0 m 17 ls [va_rf (Option.map ad s0)]) (fun (u : (Option Nat) × Int32 × (Option Nat) × CS) => match u with | (l0, l1, s0, gs) => qn gs - qn st) (fun (u : (Option Nat) × Int32 × (Option Nat) × CS) => match u with | (l0, l1, s0, gs) => qs gs - qs st) ?_ (fun J17 => ?_)
  · intro u H locs ls hu
    obtain ⟨l0, l1, s0, gs⟩ := u
    obtain ⟨hf, hp, hl, hm⟩ := hu
    show W p l e _ s m _ below meth c _ _ (qn gs - qn st) (qs gs - qs st) _ (F0 m 17 ls [va_rf (Option.map ad s0)])
    unfold fJ7_copyOf_9075b_17 at hf
    refine o_astore_n (i := 2) (lv' := [(2, va_rf (Option.map ad s0)), (0, va_rf (Option.map ad l0)), (1, .int l1)]) hx hb dJ7_copyOf_9075b_17 rfl hl (by decide) rfl (fun ls hl => ?_)
    refine o_aload_n hx hb dJ7_copyOf_9075b_18 rfl (lv_at hl 1 rfl) ?_
    refine lv_iconst (v := 0) hx hb dJ7_copyOf_9075b_19 (by decide) ?_
    refine o_aload_n hx hb dJ7_copyOf_9075b_20 rfl (lv_at hl 0 rfl) ?_
    refine lv_iconst (v := 0) hx hb dJ7_copyOf_9075b_21 (by decide) ?_
    refine o_aload_n hx hb dJ7_copyOf_9075b_22 rfl (lv_at hl 1 rfl) ?_
    obtain ⟨a_9, ha_10, hf⟩ := ono_some hf
    refine o_at ha_10 ?_
    obtain ⟨hk_11, hf⟩ := gd_some hf
    refine q_lenb hx hb hK hp hC hk_11 dJ7_copyOf_9075b_23 ?_
    refine lv_iload_n hx hb dJ7_copyOf_9075b_24 rfl (lv_at hl 2 rfl) ?_
    have hmr := mo_J7_copyOf_9075b_28  _ _ _ _ _ _ _ _ _ hf
    refine va_mmin hx hb (by rw [hml]; exact hl.1.symm) hown (hts (.methodLink RJ7 304 Lib.Math.min.name) (by decide +kernel)) (hts (.static Lib.Math.min.name) (by decide +kernel)) (hts (.initialized "java/lang/Math") (by decide +kernel)) (hts (.code Lib.Math.min.name Lib.Math.min.code 2 (some .int)) (by decide +kernel)) (Nat.le_of_ble_eq_true rfl) (Nat.le_trans (m := 40) (by simp [rf_cat, vc_i, vc_l, vc_r, vc_n, nativeFrameWords]) (Nat.le_of_ble_eq_true rfl)) (by show qn _ - qn st ≤ qn st' - qn st; have := hmr.1; have := hm.1; omega) (by show qs _ - qs st ≤ qs st' - qs st; have := hmr.2.1; have := hm.2.1; omega) dJ7_copyOf_9075b_25 ?_
    exact J28 (s0, (if l1 < (nI (ql gs a_9)) then l1 else (nI (ql gs a_9))), 0, s0, 0, l0, gs) _ _ _ ⟨hf, hp, (lv_sub hl [0] rfl), hm⟩
  unfold fJ7_copyOf_9075b at hf
  refine lv_iload_n hx hb dJ7_copyOf_9075b_0 rfl (lv_at hl 1 rfl) ?_
  refine o_aload_n hx hb dJ7_copyOf_9075b_1 rfl (lv_at hl 0 rfl) ?_
  obtain ⟨a_12, ha_13, hf⟩ := ono_some hf
  refine o_at ha_13 ?_
  obtain ⟨hk_14, hf⟩ := gd_some hf
  refine q_lenb hx hb hK hp hC hk_14 dJ7_copyOf_9075b_2 ?_
  refine lv_icmp_ne (tgt := 14) hx hb dJ7_copyOf_9075b_3 (by decide) (fun c_15 => ?_) (fun c_15 => ?_)
  · have hf := pif_f c_15 hf
    refine lv_iload_n hx hb dJ7_copyOf_9075b_14 rfl (lv_at hl 1 rfl) ?_
    obtain ⟨g_16, hf⟩ := gd_some hf
    have lthk_14 := hp.2.2.1.lt (i := a_12) (by rw [hk_14]; decide)
    obtain ⟨st_17, est_17, hf⟩ := nam_some hf
    have hmr := mo_J7_copyOf_9075b_17  _ _ _ _ _ _ hf
    refine q_newa (kd := 22) (t0 := 1) (ty := .byte) (atype := .byte) hx hb (hts (.arrayClass .byte) (by decide +kernel)) rfl hK hp hA (by decide) (by decide) rfl (fun _ => rfl) rfl g_16.1 g_16.2 (by show qn st - qn st + 1 ≤ qn st' - qn st; have := hmr.1; have := hm.1; have := (wN_n est_17).1; omega) (by show qs st - qs st + p1.toNatClampNeg ≤ qs st' - qs st; have := hmr.2.1; have := hm.2.1; have := (wN_n est_17).2; omega) dJ7_copyOf_9075b_15 (fun H hp => ?_)
    rw [← est_17] at hp
    have hk_14 : qk st_17 a_12 = 22 := by rw [est_17]; exact (va_up_ne _ _ (Nat.ne_of_lt lthk_14)).trans hk_14
    refine W.widen (k := qn st_17 - qn st) (n := qs st_17 - qs st) (by have := hm.1; have := (wN_n est_17).1; omega) (by have := hm.2.1; have := (wN_n est_17).2; omega) ?_
    have hm := hm.wN est_17
    exact J17 (p0, p1, (some (qn st)), st_17) _ _ _ ⟨hf, hp, (lv_sub hl [0, 1] rfl), hm⟩
  · have hf := pif_t c_15 hf
    cases hf
noncomputable def fJ5_ensureCapacityInternal_d00df_35 (h0 : Nat)  (s0 : Option Nat) (gs : CS) : Option (CS) := gd (qk gs h0 = 2) (nam (wP gs h0 0 s0) (fun st_2 => some st_2))
set_option maxHeartbeats 1000000 in
theorem mo_J5_ensureCapacityInternal_d00df_35 (h0 : Nat)   (s0 : Option Nat) (gs : CS) (st' : CS) (hf : fJ5_ensureCapacityInternal_d00df_35 h0 s0 gs = some st') : Mo gs st' := by
  unfold fJ5_ensureCapacityInternal_d00df_35 at hf
  have hm : Mo gs gs := Mo.rf
  obtain ⟨hk_1, hf⟩ := gd_some hf
  obtain ⟨st_2, est_2, hf⟩ := nam_some hf
  have hm := hm.wP est_2
  have e2 := Option.some.inj hf
  exact e2 ▸ hm
noncomputable def fJ5_ensureCapacityInternal_d00df_27 (h0 : Nat)  (s0 : Int32) (s1 : Option Nat) (gs : CS) : Option (CS) := gd (qk gs h0 = 2) (bnd (fJ7_copyOf_9075b s1 (s0 <<< ((qI gs h0 1) &&& 31)) gs) (fun r_6 st_4 => fJ5_ensureCapacityInternal_d00df_35 h0 r_6 st_4))
set_option maxHeartbeats 1000000 in
theorem mo_J5_ensureCapacityInternal_d00df_27 (h0 : Nat)   (s0 : Int32) (s1 : Option Nat) (gs : CS) (st' : CS) (hf : fJ5_ensureCapacityInternal_d00df_27 h0 s0 s1 gs = some st') : Mo gs st' := by
  unfold fJ5_ensureCapacityInternal_d00df_27 at hf
  have hm : Mo gs gs := Mo.rf
  obtain ⟨hk_3, hf⟩ := gd_some hf
  obtain ⟨r_6, st_4, hc_5, hf⟩ := bnd_some hf
  have hm := hm.tr (mo_J7_copyOf_9075b s1 (s0 <<< ((qI gs h0 1) &&& 31)) _ _ _ hc_5)
  exact hm.tr (mo_J5_ensureCapacityInternal_d00df_35 h0 r_6 st_4 _ hf)
noncomputable def fJ5_ensureCapacityInternal_d00df (h0 : Nat) (p0 : Int32) (st : CS) : Option (CS) := gd (qk st h0 = 2) (ono (qP st h0 0) (fun a_8 => gd (qk st a_8 = 22) (nam ((nI (ql st a_8)) >>> ((qI st h0 1) &&& 31)) (fun v_11 => pif ((p0 - v_11) ≤ 0) (some st) (bnd (fJ5_newCapacity_0f7a4 h0 p0 st) (fun r_15 st_13 => fJ5_ensureCapacityInternal_d00df_27 h0 r_15 (qP st h0 0) st_13))))))
set_option maxHeartbeats 1000000 in
theorem mo_J5_ensureCapacityInternal_d00df (h0 : Nat) (p0 : Int32) (st : CS) (st' : CS) (hf : fJ5_ensureCapacityInternal_d00df h0 p0 st = some st') : Mo st st' := by
  unfold fJ5_ensureCapacityInternal_d00df at hf
  have hm : Mo st st := Mo.rf
  obtain ⟨hk_7, hf⟩ := gd_some hf
  obtain ⟨a_8, ha_9, hf⟩ := ono_some hf
  obtain ⟨hk_10, hf⟩ := gd_some hf
  obtain ⟨v_11, ev_11, hf⟩ := nam_some hf
  rcases pif_or hf with ⟨c_12, hf⟩ | ⟨c_12, hf⟩
  · have e2 := Option.some.inj hf
    exact e2 ▸ hm
  · obtain ⟨r_15, st_13, hc_14, hf⟩ := bnd_some hf
    have hm := hm.ke (mo_J5_newCapacity_0f7a4 h0 p0 _ _ _ hc_14)
    exact hm.tr (mo_J5_ensureCapacityInternal_d00df_27 h0 r_15 (qP st h0 0) st_13 _ hf)
def wq_J5_ensureCapacityInternal_d00df : List Cond := .code yJ5_ensureCapacityInternal_d00df cJ5_ensureCapacityInternal_d00df 3 none :: (([.fieldLink RJ5 15 "java/lang/AbstractStringBuilder" "value" "[B", .fieldLink RJ5 22 "java/lang/AbstractStringBuilder" "coder" "B", .methodLink RJ5 108 yJ7_copyOf_9075b, .static yJ7_copyOf_9075b, .initialized RJ7, .methodLink RJ5 104 ⟨"java/lang/AbstractStringBuilder", "newCapacity", "(I)I"⟩, .sameMethod "java/lang/AbstractStringBuilder" "java/lang/AbstractStringBuilder" "newCapacity" "(I)I", .selects RJ4 ⟨"java/lang/AbstractStringBuilder", "newCapacity", "(I)I"⟩ yJ5_newCapacity_0f7a4, .instanceMethod yJ5_newCapacity_0f7a4, .initialized RJ5, .code yJ7_copyOf_9075b cJ7_copyOf_9075b 3 (some (.array .byte)), .methodLink RJ7 304 Lib.Math.min.name, .static Lib.Math.min.name, .initialized "java/lang/Math", .code Lib.Math.min.name Lib.Math.min.code 2 (some .int), .methodLink RJ7 150 arraycopyName, .native arraycopyName, .static arraycopyName, .initialized "java/lang/System", .arrayClass .byte, .code yJ5_newCapacity_0f7a4 cJ5_newCapacity_0f7a4 6 (some .int), .constant RJ5 39 (2147483647), .methodLink RJ5 114 yJ8_newLength_cabcc, .static yJ8_newLength_cabcc, .initialized RJ8, .code yJ8_newLength_cabcc cJ8_newLength_cabcc 4 (some .int), .methodLink RJ8 194 Lib.Math.max.name, .static Lib.Math.max.name, .code Lib.Math.max.name Lib.Math.max.code 2 (some .int), .constant RJ8 200 (2147483639)] : List Cond) ++ wsJ40)
set_option maxRecDepth 20000 in
theorem gq_J5_ensureCapacityInternal_d00df_J7_copyOf_9075b_108 : GoodIn wq_J5_ensureCapacityInternal_d00df (va_wsS RJ5 108 yJ7_copyOf_9075b wq_J7_copyOf_9075b) := goodIn_app (goodIn_r _ [3, 4, 5] rfl rfl) (goodIn_r _ [11, 12, 13, 14, 15, 16, 17, 18, 19, 20] rfl rfl)
set_option maxRecDepth 20000 in
theorem gq_J5_ensureCapacityInternal_d00df_J5_newCapacity_0f7a4_104 : GoodIn wq_J5_ensureCapacityInternal_d00df (va_wsU RJ5 104 RJ4 RJ5 ⟨"java/lang/AbstractStringBuilder", "newCapacity", "(I)I"⟩ yJ5_newCapacity_0f7a4 wq_J5_newCapacity_0f7a4) := goodIn_p _ [21, 26, 29] rfl (by decide +kernel)
set_option maxHeartbeats 4000000 in
set_option maxRecDepth 100000 in
theorem c_J5_ensureCapacityInternal_d00df (l : Launch) (dC : Nat → ClassId) (dI : Nat → Nat → Nat) (ka ad : Nat → Nat) (ct : Nat → ClassId) (h0 : Nat) (p0 : Int32) (st st' : CS) (hf : fJ5_ensureCapacityInternal_d00df h0 p0 st = some st') (sz : Nat) : Met l yJ5_ensureCapacityInternal_d00df wq_J5_ensureCapacityInternal_d00df ({ frames := 3, cells := (qn st' - qn st), slots := (qs st' - qs st), locals := 100 }) (va_Pc [.ref (ad h0), .int p0] (PrC (dC, dI) ct ka ad st sz)) (va_Qv (fun (_ : Unit) => True) (fun _ => CB (dC, dI) ct ka ad st' (aC ad st sz)) (aC ad st sz)) (qn st' - qn st) (qs st' - qs st) (aC ad st sz) := by
  refine Met.ofW (cc := cJ5_ensureCapacityInternal_d00df) (maxL := 3) (ret := none) (by decide) rfl ?_
  intro p e s m args below meth c s₁ B hml hv
  obtain ⟨rfl, hsz, hw0, hK, hN, hZ, hC, hR, hL, hw1, hw2⟩ := hv
  have hx := B.exec
  have hb := B.bytes
  have hr := B.returns
  have hts := atoms_spec (ws := wq_J5_ensureCapacityInternal_d00df) B.pre
  have hown : s.vm.findClass RJ5 = some m.cls := findClass_of_methodNamed B.named
  have iRJ4 : ∀ w ∈ u_ws RJ4 TJ4 4, w ∈ wq_J5_ensureCapacityInternal_d00df := fun w h => List.mem_cons_of_mem _ (List.mem_append_right _ h)
  subst hsz
  have hp : Cp (dC, dI) ka ad ct (aC ad st s.heap.size) s.heap st s.heap [] := ⟨fun i a b => ⟨hw0 i a b, Or.inl ⟨i, a, b, rfl⟩⟩, va_S.rf, hw1, hw2⟩
  generalize hAe : aC ad st s.heap.size = A at hp hZ hC ⊢
  have hA : ∀ q : Nat, s.heap.size ≤ q → A q := fun q h => by rw [← hAe]; exact Or.inr h
  have hl := lv_entry ([.ref (ad h0), .int p0]) (n := 3) (Nat.le_of_ble_eq_true rfl)
  rw [lg_entry_eq]
  generalize (lg_sl ([.ref (ad h0), .int p0]) ++ List.replicate (3 - (lg_sl ([.ref (ad h0), .int p0])).length) Slot.unset).toArray = ls at hl ⊢
  have hl : lv_has ls 3 [(0, .ref (ad h0)), (1, .int p0)] := hl
  have hm : Mo st st := Mo.rf
  refine W.widen (k := qn st - qn st) (n := qs st - qs st) (Nat.zero_le _) (Nat.zero_le _) ?_
  refine W_blkA (fun (u : (Option Nat) × CS) H locs ls => match u with | (s0, gs) => fJ5_ensureCapacityInternal_d00df_35 h0 s0 gs = some st' ∧ Cp (dC, dI) ka ad ct A s.heap gs H locs ∧ lv_has ls 3 [] ∧ Mo st gs) (fun (u : (Option Nat) × CS) ls => match u with | (s0, gs) => F0 m 35 ls [va_rf (Option.map ad s0), .ref (ad h0)]) (fun (u : (Option Nat) × CS) => match u with | (s0, gs) => qn gs - qn st) (fun (u : (Option Nat) × CS) => match u with | (s0, gs) => qs gs - qs st) ?_ (fun J35 => ?_)
  · intro u H locs ls hu
    obtain ⟨s0, gs⟩ := u
    obtain ⟨hf, hp, hl, hm⟩ := hu
    show W p l e _ s m _ below meth c _ _ (qn gs - qn st) (qs gs - qs st) _ (F0 m 35 ls [va_rf (Option.map ad s0), .ref (ad h0)])
    unfold fJ5_ensureCapacityInternal_d00df_35 at hf
    obtain ⟨hk_1, hf⟩ := gd_some hf
    refine q_pp (ci := 1) (C := RJ4) (T := TJ4) (N := 4) (k := 0) (v := s0) (ty := (.array .byte)) hx hb hts iRJ4 tyJ4 tyJ4_ok nmJ4 hown hK hp hk_1 (by decide) rfl rfl (by decide) rfl (Or.inl (hts (.fieldLink RJ5 15 "java/lang/AbstractStringBuilder" "value" "[B") (by decide +kernel))) (fun _ h9 => h9) rfl (by decide +kernel) (rf_narA rfl _) dJ5_ensureCapacityInternal_d00df_35 (fun H locs hp => ?_)
    obtain ⟨st_2, est_2, hf⟩ := nam_some hf
    rw [← est_2] at hp
    have hm := hm.wP est_2
    refine W.widen (k := qn st_2 - qn st) (n := qs st_2 - qs st) (by rw [est_2]; exact Nat.le_refl _) (by rw [est_2]; exact Nat.le_refl _) ?_
    have hk_1 : qk st_2 h0 = 2 := by rw [est_2]; exact hk_1
    have e2 := Option.some.inj hf
    refine W.widen (k := qn st' - qn st) (n := qs st' - qs st) (by rw [e2]; exact Nat.le_refl _) (by rw [e2]; exact Nat.le_refl _) ?_
    exact W.vret hx hb hr (fun t ht hW => ⟨⟨(), rfl, trivial, Cp.end e2 hp ht⟩, hp.2.1.F ht⟩) hp.2.1.2.2 dJ5_ensureCapacityInternal_d00df_38
  refine W_blkA (fun (u : Int32 × (Option Nat) × CS) H locs ls => match u with | (s0, s1, gs) => fJ5_ensureCapacityInternal_d00df_27 h0 s0 s1 gs = some st' ∧ Cp (dC, dI) ka ad ct A s.heap gs H locs ∧ lv_has ls 3 [(0, .ref (ad h0))] ∧ Mo st gs) (fun (u : Int32 × (Option Nat) × CS) ls => match u with | (s0, s1, gs) => F0 m 27 ls [.int s0, va_rf (Option.map ad s1), .ref (ad h0)]) (fun (u : Int32 × (Option Nat) × CS) => match u with | (s0, s1, gs) => qn gs - qn st) (fun (u : Int32 × (Option Nat) × CS) => match u with | (s0, s1, gs) => qs gs - qs st) ?_ (fun J27 => ?_)
  · intro u H locs ls hu
    obtain ⟨s0, s1, gs⟩ := u
    obtain ⟨hf, hp, hl, hm⟩ := hu
    show W p l e _ s m _ below meth c _ _ (qn gs - qn st) (qs gs - qs st) _ (F0 m 27 ls [.int s0, va_rf (Option.map ad s1), .ref (ad h0)])
    unfold fJ5_ensureCapacityInternal_d00df_27 at hf
    refine lv_aload_n hx hb dJ5_ensureCapacityInternal_d00df_27 rfl (lv_at hl 0 rfl) ?_
    obtain ⟨hk_3, hf⟩ := gd_some hf
    refine q_gi (ci := 1) (C := RJ4) (T := TJ4) (N := 4) (k := 1) hx hb hts iRJ4 hown hK hp hk_3 (by decide) rfl rfl (by decide) rfl (Or.inl (hts (.fieldLink RJ5 22 "java/lang/AbstractStringBuilder" "coder" "B") (by decide +kernel))) (fun _ h9 => h9) dJ5_ensureCapacityInternal_d00df_28 ?_
    refine lv_ishl hx hb dJ5_ensureCapacityInternal_d00df_31 ?_
    obtain ⟨r_6, st_4, hc_5, hf⟩ := bnd_some hf
    have lthk_3 := hp.2.2.1.lt (i := h0) (by rw [hk_3]; decide)
    have hmc := (mo_J7_copyOf_9075b s1 (s0 <<< ((qI gs h0 1) &&& 31)) _ _ _ hc_5)
    have hmr := mo_J5_ensureCapacityInternal_d00df_35 h0 _ _ _ hf
    refine q_cq hp hA (va_runS (As := [va_rf (Option.map ad s1), .int (s0 <<< ((qI gs h0 1) &&& 31))]) (rest := [.ref (ad h0)]) ⟨hx, hb, hml, hown, hts⟩ (c_J7_copyOf_9075b l dC dI ka ad ct s1 (s0 <<< ((qI gs h0 1) &&& 31)) _ _ _ hc_5 _) (va_cwS 2 hts gq_J5_ensureCapacityInternal_d00df_J7_copyOf_9075b_108 rfl rfl rfl (by decide +kernel) ⟨Nat.le_of_ble_eq_true rfl, Nat.le_of_ble_eq_true rfl⟩) ⟨PrC.blind _, q_pre hp hK hN hZ hC hR hL hA⟩ rfl rfl hl.1 rfl (lv_room (Nat.le_of_ble_eq_true rfl)) dJ5_ensureCapacityInternal_d00df_32 ⟨by show qn gs - qn st + (qn st_4 - qn gs) ≤ qn st' - qn st; have := hmr.1; have := hm.1; have := hmc.1; omega, by show qs gs - qs st + (qs st_4 - qs gs) ≤ qs st' - qs st; have := hmr.2.1; have := hm.2.1; have := hmc.2.1; omega⟩) (fun H locs hp => ?_)
    have hk_3 : qk st_4 h0 = 2 := ((mo_J7_copyOf_9075b s1 (s0 <<< ((qI gs h0 1) &&& 31)) _ _ _ hc_5).2.2 _ lthk_3).1.trans hk_3
    refine W.widen (k := qn st_4 - qn st) (n := qs st_4 - qs st) (by have := hm.1; have := hmc.1; omega) (by have := hm.2.1; have := hmc.2.1; omega) ?_
    have hm := hm.tr hmc
    exact J35 (r_6, st_4) _ _ _ ⟨hf, hp, (lv_sub hl [] rfl), hm⟩
  unfold fJ5_ensureCapacityInternal_d00df at hf
  refine lv_aload_n hx hb dJ5_ensureCapacityInternal_d00df_0 rfl (lv_at hl 0 rfl) ?_
  obtain ⟨hk_7, hf⟩ := gd_some hf
  refine q_gp (ci := 1) (C := RJ4) (T := TJ4) (N := 4) (k := 0) hx hb hts iRJ4 hown hK hp hk_7 (by decide) rfl rfl (by decide) rfl (Or.inl (hts (.fieldLink RJ5 15 "java/lang/AbstractStringBuilder" "value" "[B") (by decide +kernel))) (fun _ h9 => h9) dJ5_ensureCapacityInternal_d00df_1 ?_
  obtain ⟨a_8, ha_9, hf⟩ := ono_some hf
  refine o_at ha_9 ?_
  obtain ⟨hk_10, hf⟩ := gd_some hf
  refine q_lenb hx hb hK hp hC hk_10 dJ5_ensureCapacityInternal_d00df_4 ?_
  refine lv_aload_n hx hb dJ5_ensureCapacityInternal_d00df_5 rfl (lv_at hl 0 rfl) ?_
  refine q_gi (ci := 1) (C := RJ4) (T := TJ4) (N := 4) (k := 1) hx hb hts iRJ4 hown hK hp hk_7 (by decide) rfl rfl (by decide) rfl (Or.inl (hts (.fieldLink RJ5 22 "java/lang/AbstractStringBuilder" "coder" "B") (by decide +kernel))) (fun _ h9 => h9) dJ5_ensureCapacityInternal_d00df_6 ?_
  refine lv_ishr hx hb dJ5_ensureCapacityInternal_d00df_9 ?_
  obtain ⟨v_11, ev_11, hf⟩ := nam_some hf
  refine W_toi (y := v_11) ev_11.symm ?_
  refine lv_istore_n (i := 2) (lv' := [(2, .int v_11), (0, .ref (ad h0)), (1, .int p0)]) hx hb dJ5_ensureCapacityInternal_d00df_10 rfl hl (by decide) rfl (fun ls hl => ?_)
  refine lv_iload_n hx hb dJ5_ensureCapacityInternal_d00df_11 rfl (lv_at hl 2 rfl) ?_
  refine lv_iload_n hx hb dJ5_ensureCapacityInternal_d00df_12 rfl (lv_at hl 0 rfl) ?_
  refine lv_isub hx hb dJ5_ensureCapacityInternal_d00df_13 ?_
  refine lv_if_le (tgt := 38) hx hb dJ5_ensureCapacityInternal_d00df_14 (by decide) (fun c_12 => ?_) (fun c_12 => ?_)
  · have hf := pif_t c_12 hf
    have e2 := Option.some.inj hf
    refine W.widen (k := qn st' - qn st) (n := qs st' - qs st) (by rw [e2]; exact Nat.le_refl _) (by rw [e2]; exact Nat.le_refl _) ?_
    exact W.vret hx hb hr (fun t ht hW => ⟨⟨(), rfl, trivial, Cp.end e2 hp ht⟩, hp.2.1.F ht⟩) hp.2.1.2.2 dJ5_ensureCapacityInternal_d00df_38
  · have hf := pif_f c_12 hf
    refine lv_aload_n hx hb dJ5_ensureCapacityInternal_d00df_17 rfl (lv_at hl 1 rfl) ?_
    refine lv_aload_n hx hb dJ5_ensureCapacityInternal_d00df_18 rfl (lv_at hl 1 rfl) ?_
    refine q_gp (ci := 1) (C := RJ4) (T := TJ4) (N := 4) (k := 0) hx hb hts iRJ4 hown hK hp hk_7 (by decide) rfl rfl (by decide) rfl (Or.inl (hts (.fieldLink RJ5 15 "java/lang/AbstractStringBuilder" "value" "[B") (by decide +kernel))) (fun _ h9 => h9) dJ5_ensureCapacityInternal_d00df_19 ?_
    refine lv_aload_n hx hb dJ5_ensureCapacityInternal_d00df_22 rfl (lv_at hl 1 rfl) ?_
    refine lv_iload_n hx hb dJ5_ensureCapacityInternal_d00df_23 rfl (lv_at hl 2 rfl) ?_
    obtain ⟨r_15, st_13, hc_14, hf⟩ := bnd_some hf
    have hmc := (mo_J5_newCapacity_0f7a4 h0 p0 _ _ _ hc_14).mo
    have hmr := mo_J5_ensureCapacityInternal_d00df_27 h0 _ _ _ _ hf
    refine q_ci hp hA (va_runU (As := [.int p0]) (rest := [va_rf (Option.map ad (qP st h0 0)), .ref (ad h0)]) ⟨hx, hb, hml, hown, hts⟩ (c_J5_newCapacity_0f7a4 l dC dI ka ad ct h0 p0 _ _ _ hc_14 _) (va_cwU 1 hts gq_J5_ensureCapacityInternal_d00df_J5_newCapacity_0f7a4_104 rfl rfl rfl rfl (by decide +kernel) ⟨Nat.le_of_ble_eq_true rfl, Nat.le_of_ble_eq_true rfl⟩) ⟨PrC.blind _, q_rv1 hK hp hC hk_7, q_pre hp hK hN hZ hC hR hL hA⟩ rfl rfl hl.1 rfl (lv_room (by simp [rf_cat, vc_i, vc_l, vc_r, vc_n])) dJ5_ensureCapacityInternal_d00df_24 ⟨by show qn st - qn st + 0 ≤ qn st' - qn st; have := hmr.1; have := hm.1; have := hmc.1; omega, by show qs st - qs st + 0 ≤ qs st' - qs st; have := hmr.2.1; have := hm.2.1; have := hmc.2.1; omega⟩) (fun H locs hp => ?_)
    have hk_7 : qk st_13 h0 = 2 := by rw [(mo_J5_newCapacity_0f7a4 h0 p0 _ _ _ hc_14).2.2.1]; exact hk_7
    have hk_10 : qk st_13 a_8 = 22 := by rw [(mo_J5_newCapacity_0f7a4 h0 p0 _ _ _ hc_14).2.2.1]; exact hk_10
    refine W.widen (k := qn st_13 - qn st) (n := qs st_13 - qs st) (by have := hmc.1; omega) (by have := hmc.2.1; omega) ?_
    have hm := hm.tr hmc
    exact J27 (r_15, (qP st h0 0), st_13) _ _ _ ⟨hf, hp, (lv_sub hl [1] rfl), hm⟩
noncomputable def fJ5_append_3fe6f_21 (h0 : Nat)  (l1 : Int32) (s0 : Int32) (gs : CS) : Option (Option Nat × CS) := pif (s0 = 0) (none) (gd (qk gs h0 = 2) (nam (wI gs h0 3 ((qI gs h0 3) + 1)) (fun st_3 => ono (qP gs h0 0) (fun a_4 => gd (qk st_3 a_4 = 22) (gd (32 ≤ a_4 ∧ vp_in (qI gs h0 3) (ql st_3 a_4)) (nam (wI st_3 a_4 (qI gs h0 3).toNatClampNeg (vp_nar .byte l1.toInt8.toInt32)) (fun st_8 => some ((some h0), st_8))))))))
set_option maxHeartbeats 1000000 in
theorem mo_J5_append_3fe6f_21 (h0 : Nat)   (l1 : Int32) (s0 : Int32) (gs : CS) (r : Option Nat) (st' : CS) (hf : fJ5_append_3fe6f_21 h0 l1 s0 gs = some (r, st')) : Mo gs st' := by
  unfold fJ5_append_3fe6f_21 at hf
  have hm : Mo gs gs := Mo.rf
  rcases pif_or hf with ⟨c_1, hf⟩ | ⟨c_1, hf⟩
  · cases hf
  · obtain ⟨hk_2, hf⟩ := gd_some hf
    obtain ⟨st_3, est_3, hf⟩ := nam_some hf
    have hm := hm.wI est_3
    obtain ⟨a_4, ha_5, hf⟩ := ono_some hf
    obtain ⟨hk_6, hf⟩ := gd_some hf
    obtain ⟨g_7, hf⟩ := gd_some hf
    obtain ⟨st_8, est_8, hf⟩ := nam_some hf
    have hm := hm.wI est_8
    obtain ⟨e1, e2⟩ := pr_some hf
    exact e2 ▸ hm
noncomputable def fJ5_append_3fe6f_14 (h0 : Nat)  (l1 : Int32) (s0 : Int32) (gs : CS) : Option (Option Nat × CS) := pif (s0 = 0) (none) (bnd (fJ1_canEncode_fc78d l1 gs) (fun r_12 st_10 => fJ5_append_3fe6f_21 h0 l1 r_12 st_10))
set_option maxHeartbeats 1000000 in
theorem mo_J5_append_3fe6f_14 (h0 : Nat)   (l1 : Int32) (s0 : Int32) (gs : CS) (r : Option Nat) (st' : CS) (hf : fJ5_append_3fe6f_14 h0 l1 s0 gs = some (r, st')) : Mo gs st' := by
  unfold fJ5_append_3fe6f_14 at hf
  have hm : Mo gs gs := Mo.rf
  rcases pif_or hf with ⟨c_9, hf⟩ | ⟨c_9, hf⟩
  · cases hf
  · obtain ⟨r_12, st_10, hc_11, hf⟩ := bnd_some hf
    have hm := hm.ke (mo_J1_canEncode_fc78d l1 _ _ _ hc_11)
    exact hm.tr (mo_J5_append_3fe6f_21 h0 l1 r_12 st_10 _ _ hf)
noncomputable def fJ5_append_3fe6f_10 (h0 : Nat)  (l1 : Int32) (gs : CS) : Option (Option Nat × CS) := gd (qk gs h0 = 2) (bnd (fJ5_isLatin1_aae02 h0 gs) (fun r_16 st_14 => fJ5_append_3fe6f_14 h0 l1 r_16 st_14))
set_option maxHeartbeats 1000000 in
theorem mo_J5_append_3fe6f_10 (h0 : Nat)   (l1 : Int32) (gs : CS) (r : Option Nat) (st' : CS) (hf : fJ5_append_3fe6f_10 h0 l1 gs = some (r, st')) : Mo gs st' := by
  unfold fJ5_append_3fe6f_10 at hf
  have hm : Mo gs gs := Mo.rf
  obtain ⟨hk_13, hf⟩ := gd_some hf
  obtain ⟨r_16, st_14, hc_15, hf⟩ := bnd_some hf
  have hm := hm.ke (mo_J5_isLatin1_aae02 h0 _ _ _ hc_15)
  exact hm.tr (mo_J5_append_3fe6f_14 h0 l1 r_16 st_14 _ _ hf)
noncomputable def fJ5_append_3fe6f (h0 : Nat) (p0 : Int32) (st : CS) : Option (Option Nat × CS) := gd (qk st h0 = 2) (bnv (fJ5_ensureCapacityInternal_d00df h0 ((qI st h0 3) + 1) st) (fun st_18 => fJ5_append_3fe6f_10 h0 p0 st_18))
set_option maxHeartbeats 1000000 in
theorem mo_J5_append_3fe6f (h0 : Nat) (p0 : Int32) (st : CS) (r : Option Nat) (st' : CS) (hf : fJ5_append_3fe6f h0 p0 st = some (r, st')) : Mo st st' := by
  unfold fJ5_append_3fe6f at hf
  have hm : Mo st st := Mo.rf
  obtain ⟨hk_17, hf⟩ := gd_some hf
  obtain ⟨st_18, hc_19, hf⟩ := bnv_some hf
  have hm := hm.tr (mo_J5_ensureCapacityInternal_d00df h0 ((qI st h0 3) + 1) _ _ hc_19)
  exact hm.tr (mo_J5_append_3fe6f_10 h0 p0 st_18 _ _ hf)
def wq_J5_append_3fe6f : List Cond := .code yJ5_append_3fe6f cJ5_append_3fe6f 2 (some (.object "java/lang/AbstractStringBuilder")) :: (([.fieldLink RJ5 79 "java/lang/AbstractStringBuilder" "count" "I", .fieldLink RJ5 15 "java/lang/AbstractStringBuilder" "value" "[B", .methodLink RJ5 191 yJ1_canEncode_fc78d, .static yJ1_canEncode_fc78d, .initialized RJ1, .methodLink RJ5 83 ⟨"java/lang/AbstractStringBuilder", "isLatin1", "()Z"⟩, .sameMethod "java/lang/AbstractStringBuilder" "java/lang/AbstractStringBuilder" "isLatin1" "()Z", .selects RJ4 ⟨"java/lang/AbstractStringBuilder", "isLatin1", "()Z"⟩ yJ5_isLatin1_aae02, .instanceMethod yJ5_isLatin1_aae02, .initialized RJ5, .methodLink RJ5 100 ⟨"java/lang/AbstractStringBuilder", "ensureCapacityInternal", "(I)V"⟩, .sameMethod "java/lang/AbstractStringBuilder" "java/lang/AbstractStringBuilder" "ensureCapacityInternal" "(I)V", .selects RJ4 ⟨"java/lang/AbstractStringBuilder", "ensureCapacityInternal", "(I)V"⟩ yJ5_ensureCapacityInternal_d00df, .instanceMethod yJ5_ensureCapacityInternal_d00df, .code yJ1_canEncode_fc78d cJ1_canEncode_fc78d 1 (some .boolean), .code yJ5_isLatin1_aae02 cJ5_isLatin1_aae02 1 (some .boolean), .fieldLink RJ5 18 "java/lang/String" "COMPACT_STRINGS" "Z", .fieldLink RJ5 22 "java/lang/AbstractStringBuilder" "coder" "B", .code yJ5_ensureCapacityInternal_d00df cJ5_ensureCapacityInternal_d00df 3 none, .methodLink RJ5 108 yJ7_copyOf_9075b, .static yJ7_copyOf_9075b, .initialized RJ7, .methodLink RJ5 104 ⟨"java/lang/AbstractStringBuilder", "newCapacity", "(I)I"⟩, .sameMethod "java/lang/AbstractStringBuilder" "java/lang/AbstractStringBuilder" "newCapacity" "(I)I", .selects RJ4 ⟨"java/lang/AbstractStringBuilder", "newCapacity", "(I)I"⟩ yJ5_newCapacity_0f7a4, .instanceMethod yJ5_newCapacity_0f7a4, .code yJ7_copyOf_9075b cJ7_copyOf_9075b 3 (some (.array .byte)), .methodLink RJ7 304 Lib.Math.min.name, .static Lib.Math.min.name, .initialized "java/lang/Math", .code Lib.Math.min.name Lib.Math.min.code 2 (some .int), .methodLink RJ7 150 arraycopyName, .native arraycopyName, .static arraycopyName, .initialized "java/lang/System", .arrayClass .byte, .code yJ5_newCapacity_0f7a4 cJ5_newCapacity_0f7a4 6 (some .int), .constant RJ5 39 (2147483647), .methodLink RJ5 114 yJ8_newLength_cabcc, .static yJ8_newLength_cabcc, .initialized RJ8, .code yJ8_newLength_cabcc cJ8_newLength_cabcc 4 (some .int), .methodLink RJ8 194 Lib.Math.max.name, .static Lib.Math.max.name, .code Lib.Math.max.name Lib.Math.max.code 2 (some .int), .constant RJ8 200 (2147483639)] : List Cond) ++ wsJ40)
set_option maxRecDepth 20000 in
theorem gq_J5_append_3fe6f_J1_canEncode_fc78d_191 : GoodIn wq_J5_append_3fe6f (va_wsS RJ5 191 yJ1_canEncode_fc78d wq_J1_canEncode_fc78d) := goodIn_app (goodIn_r _ [3, 4, 5] rfl rfl) (goodIn_r _ [15] rfl rfl)
set_option maxRecDepth 20000 in
theorem gq_J5_append_3fe6f_J5_isLatin1_aae02_83 : GoodIn wq_J5_append_3fe6f (va_wsU RJ5 83 RJ4 RJ5 ⟨"java/lang/AbstractStringBuilder", "isLatin1", "()Z"⟩ yJ5_isLatin1_aae02 wq_J5_isLatin1_aae02) := goodIn_p _ [16] rfl (by decide +kernel)
set_option maxRecDepth 20000 in
theorem gq_J5_append_3fe6f_J5_ensureCapacityInternal_d00df_100 : GoodIn wq_J5_append_3fe6f (va_wsU RJ5 100 RJ4 RJ5 ⟨"java/lang/AbstractStringBuilder", "ensureCapacityInternal", "(I)V"⟩ yJ5_ensureCapacityInternal_d00df wq_J5_ensureCapacityInternal_d00df) := goodIn_p _ [19, 27, 31, 37, 42, 45] rfl (by decide +kernel)
set_option maxHeartbeats 4000000 in
set_option maxRecDepth 100000 in
theorem c_J5_append_3fe6f (l : Launch) (dC : Nat → ClassId) (dI : Nat → Nat → Nat) (ka ad : Nat → Nat) (ct : Nat → ClassId) (h0 : Nat) (p0 : Int32) (st st' : CS) (r : Option Nat) (hf : fJ5_append_3fe6f h0 p0 st = some (r, st')) (sz : Nat) : Met l yJ5_append_3fe6f wq_J5_append_3fe6f ({ frames := 4, cells := (qn st' - qn st), slots := (qs st' - qs st), locals := 126 }) (va_Pc [.ref (ad h0), .int p0] (PrC (dC, dI) ct ka ad st sz)) (va_Qq (fun r' (_ : Unit) => r' = Option.map ad r) (fun _ => CB (dC, dI) ct ka ad st' (aC ad st sz)) (aC ad st sz)) (qn st' - qn st) (qs st' - qs st) (aC ad st sz) := by
  refine Met.ofW (cc := cJ5_append_3fe6f) (maxL := 2) (ret := (some (.object "java/lang/AbstractStringBuilder"))) (by decide) rfl ?_
  intro p e s m args below meth c s₁ B hml hv
  obtain ⟨rfl, hsz, hw0, hK, hN, hZ, hC, hR, hL, hw1, hw2⟩ := hv
  have hx := B.exec
  have hb := B.bytes
  have hr := B.returns
  have hts := atoms_spec (ws := wq_J5_append_3fe6f) B.pre
  have hown : s.vm.findClass RJ5 = some m.cls := findClass_of_methodNamed B.named
  have iRJ4 : ∀ w ∈ u_ws RJ4 TJ4 4, w ∈ wq_J5_append_3fe6f := fun w h => List.mem_cons_of_mem _ (List.mem_append_right _ h)
  subst hsz
  have hp : Cp (dC, dI) ka ad ct (aC ad st s.heap.size) s.heap st s.heap [] := ⟨fun i a b => ⟨hw0 i a b, Or.inl ⟨i, a, b, rfl⟩⟩, va_S.rf, hw1, hw2⟩
  generalize hAe : aC ad st s.heap.size = A at hp hZ hC ⊢
  have hA : ∀ q : Nat, s.heap.size ≤ q → A q := fun q h => by rw [← hAe]; exact Or.inr h
  have hl := lv_entry ([.ref (ad h0), .int p0]) (n := 2) (Nat.le_of_ble_eq_true rfl)
  rw [lg_entry_eq]
  generalize (lg_sl ([.ref (ad h0), .int p0]) ++ List.replicate (2 - (lg_sl ([.ref (ad h0), .int p0])).length) Slot.unset).toArray = ls at hl ⊢
  have hl : lv_has ls 2 [(0, .ref (ad h0)), (1, .int p0)] := hl
  have hm : Mo st st := Mo.rf
  refine W.widen (k := qn st - qn st) (n := qs st - qs st) (Nat.zero_le _) (Nat.zero_le _) ?_
  refine W_blkA (fun (u : Int32 × Int32 × CS) H locs ls => match u with | (l1, s0, gs) => fJ5_append_3fe6f_21 h0 l1 s0 gs = some (r, st') ∧ Cp (dC, dI) ka ad ct A s.heap gs H locs ∧ lv_has ls 2 [(0, .ref (ad h0)), (1, .int l1)] ∧ Mo st gs) (fun (u : Int32 × Int32 × CS) ls => match u with | (l1, s0, gs) => F0 m 21 ls [.int s0]) (fun (u : Int32 × Int32 × CS) => match u with | (l1, s0, gs) => qn gs - qn st) (fun (u : Int32 × Int32 × CS) => match u with | (l1, s0, gs) => qs gs - qs st) ?_ (fun J21 => ?_)
  · intro u H locs ls hu
    obtain ⟨l1, s0, gs⟩ := u
    obtain ⟨hf, hp, hl, hm⟩ := hu
    show W p l e _ s m _ below meth c _ _ (qn gs - qn st) (qs gs - qs st) _ (F0 m 21 ls [.int s0])
    unfold fJ5_append_3fe6f_21 at hf
    refine lv_if_eq (tgt := 45) hx hb dJ5_append_3fe6f_21 (by decide) (fun c_1 => ?_) (fun c_1 => ?_)
    · have hf := pif_t c_1 hf
      cases hf
    · have hf := pif_f c_1 hf
      refine lv_aload_n hx hb dJ5_append_3fe6f_24 rfl (lv_at hl 0 rfl) ?_
      obtain ⟨hk_2, hf⟩ := gd_some hf
      refine q_gp (ci := 1) (C := RJ4) (T := TJ4) (N := 4) (k := 0) hx hb hts iRJ4 hown hK hp hk_2 (by decide) rfl rfl (by decide) rfl (Or.inl (hts (.fieldLink RJ5 15 "java/lang/AbstractStringBuilder" "value" "[B") (by decide +kernel))) (fun _ h9 => h9) dJ5_append_3fe6f_25 ?_
      refine lv_aload_n hx hb dJ5_append_3fe6f_28 rfl (lv_at hl 0 rfl) ?_
      refine lv_dup hx hb dJ5_append_3fe6f_29 rfl ?_
      refine q_gi (ci := 1) (C := RJ4) (T := TJ4) (N := 4) (k := 3) hx hb hts iRJ4 hown hK hp hk_2 (by decide) rfl rfl (by decide) rfl (Or.inl (hts (.fieldLink RJ5 79 "java/lang/AbstractStringBuilder" "count" "I") (by decide +kernel))) (fun _ h9 => h9) dJ5_append_3fe6f_30 ?_
      refine lv_dup_x1 hx hb dJ5_append_3fe6f_33 rfl rfl ?_
      refine lv_iconst (v := 1) hx hb dJ5_append_3fe6f_34 (by decide) ?_
      refine lv_iadd hx hb dJ5_append_3fe6f_35 ?_
      refine q_pi (ci := 1) (C := RJ4) (T := TJ4) (N := 4) (k := 3) (v := (qI gs h0 3) + 1) (ty := .int) hx hb hts iRJ4 tyJ4 tyJ4_ok nmJ4 hown hK hp hk_2 (by decide) rfl rfl (by decide) rfl (Or.inl (hts (.fieldLink RJ5 79 "java/lang/AbstractStringBuilder" "count" "I") (by decide +kernel))) (fun _ h9 => h9) rfl (by decide +kernel) rfl rfl dJ5_append_3fe6f_36 (fun H locs hp => ?_)
      obtain ⟨st_3, est_3, hf⟩ := nam_some hf
      rw [← est_3] at hp
      have hm := hm.wI est_3
      refine W.widen (k := qn st_3 - qn st) (n := qs st_3 - qs st) (by rw [est_3]; exact Nat.le_refl _) (by rw [est_3]; exact Nat.le_refl _) ?_
      have hk_2 : qk st_3 h0 = 2 := by rw [est_3]; exact hk_2
      refine lv_iload_n hx hb dJ5_append_3fe6f_39 rfl (lv_at hl 1 rfl) ?_
      refine lv_i2b (v := l1.toInt8.toInt32) hx hb dJ5_append_3fe6f_40 rfl ?_
      obtain ⟨a_4, ha_5, hf⟩ := ono_some hf
      refine o_at2 ha_5 ?_
      obtain ⟨hk_6, hf⟩ := gd_some hf
      obtain ⟨g_7, hf⟩ := gd_some hf
      refine q_sb hx hb hK hp g_7.1 hk_6 g_7.2 dJ5_append_3fe6f_41 (fun H locs hp => ?_)
      obtain ⟨st_8, est_8, hf⟩ := nam_some hf
      rw [← est_8] at hp
      have hm := hm.wI est_8
      refine W.widen (k := qn st_8 - qn st) (n := qs st_8 - qs st) (by rw [est_8]; exact Nat.le_refl _) (by rw [est_8]; exact Nat.le_refl _) ?_
      have hk_2 : qk st_8 h0 = 2 := by rw [est_8]; exact hk_2
      have hk_6 : qk st_8 a_4 = 22 := by rw [est_8]; exact hk_6
      refine lv_goto (tgt := 75) hx hb dJ5_append_3fe6f_42 (by decide) ?_
      refine lv_aload_n hx hb dJ5_append_3fe6f_75 rfl (lv_at hl 0 rfl) ?_
      obtain ⟨e1, e2⟩ := pr_some hf
      refine W.widen (k := qn st' - qn st) (n := qs st' - qs st) (by rw [e2]; exact Nat.le_refl _) (by rw [e2]; exact Nat.le_refl _) ?_
      exact W.aret (v := va_rf (Option.map ad (some h0))) hx hb hr (Or.inl ⟨_, rfl⟩) (rf_or _) (fun t ht hW => ⟨⟨Option.map ad (some h0), (), rfl, by rw [e1], Cp.end e2 hp ht⟩, hp.2.1.F ht⟩) hp.2.1.2.2 dJ5_append_3fe6f_76
  refine W_blkA (fun (u : Int32 × Int32 × CS) H locs ls => match u with | (l1, s0, gs) => fJ5_append_3fe6f_14 h0 l1 s0 gs = some (r, st') ∧ Cp (dC, dI) ka ad ct A s.heap gs H locs ∧ lv_has ls 2 [(0, .ref (ad h0)), (1, .int l1)] ∧ Mo st gs) (fun (u : Int32 × Int32 × CS) ls => match u with | (l1, s0, gs) => F0 m 14 ls [.int s0]) (fun (u : Int32 × Int32 × CS) => match u with | (l1, s0, gs) => qn gs - qn st) (fun (u : Int32 × Int32 × CS) => match u with | (l1, s0, gs) => qs gs - qs st) ?_ (fun J14 => ?_)
  · intro u H locs ls hu
    obtain ⟨l1, s0, gs⟩ := u
    obtain ⟨hf, hp, hl, hm⟩ := hu
    show W p l e _ s m _ below meth c _ _ (qn gs - qn st) (qs gs - qs st) _ (F0 m 14 ls [.int s0])
    unfold fJ5_append_3fe6f_14 at hf
    refine lv_if_eq (tgt := 45) hx hb dJ5_append_3fe6f_14 (by decide) (fun c_9 => ?_) (fun c_9 => ?_)
    · have hf := pif_t c_9 hf
      cases hf
    · have hf := pif_f c_9 hf
      refine lv_iload_n hx hb dJ5_append_3fe6f_17 rfl (lv_at hl 1 rfl) ?_
      obtain ⟨r_12, st_10, hc_11, hf⟩ := bnd_some hf
      have hmc := (mo_J1_canEncode_fc78d l1 _ _ _ hc_11).mo
      have hmr := mo_J5_append_3fe6f_21 h0 _ _ _ _ _ hf
      refine q_ci hp hA (va_runS (As := [.int l1]) (rest := []) ⟨hx, hb, hml, hown, hts⟩ (c_J1_canEncode_fc78d l dC dI ka ad ct l1 _ _ _ hc_11 _) (va_cwS 1 hts gq_J5_append_3fe6f_J1_canEncode_fc78d_191 rfl rfl rfl (by decide +kernel) ⟨Nat.le_of_ble_eq_true rfl, Nat.le_of_ble_eq_true rfl⟩) ⟨PrC.blind _, q_pre hp hK hN hZ hC hR hL hA⟩ rfl rfl hl.1 rfl (lv_room (Nat.le_of_ble_eq_true rfl)) dJ5_append_3fe6f_18 ⟨by show qn gs - qn st + 0 ≤ qn st' - qn st; have := hmr.1; have := hm.1; have := hmc.1; omega, by show qs gs - qs st + 0 ≤ qs st' - qs st; have := hmr.2.1; have := hm.2.1; have := hmc.2.1; omega⟩) (fun H locs hp => ?_)
      refine W.widen (k := qn st_10 - qn st) (n := qs st_10 - qs st) (by have := hmc.1; omega) (by have := hmc.2.1; omega) ?_
      have hm := hm.tr hmc
      exact J21 (l1, r_12, st_10) _ _ _ ⟨hf, hp, (lv_sub hl [0, 1] rfl), hm⟩
  refine W_blkA (fun (u : Int32 × CS) H locs ls => match u with | (l1, gs) => fJ5_append_3fe6f_10 h0 l1 gs = some (r, st') ∧ Cp (dC, dI) ka ad ct A s.heap gs H locs ∧ lv_has ls 2 [(0, .ref (ad h0)), (1, .int l1)] ∧ Mo st gs) (fun (u : Int32 × CS) ls => match u with | (l1, gs) => F0 m 10 ls []) (fun (u : Int32 × CS) => match u with | (l1, gs) => qn gs - qn st) (fun (u : Int32 × CS) => match u with | (l1, gs) => qs gs - qs st) ?_ (fun J10 => ?_)
  · intro u H locs ls hu
    obtain ⟨l1, gs⟩ := u
    obtain ⟨hf, hp, hl, hm⟩ := hu
    show W p l e _ s m _ below meth c _ _ (qn gs - qn st) (qs gs - qs st) _ (F0 m 10 ls [])
    unfold fJ5_append_3fe6f_10 at hf
    refine lv_aload_n hx hb dJ5_append_3fe6f_10 rfl (lv_at hl 0 rfl) ?_
    obtain ⟨hk_13, hf⟩ := gd_some hf
    obtain ⟨r_16, st_14, hc_15, hf⟩ := bnd_some hf
    have hmc := (mo_J5_isLatin1_aae02 h0 _ _ _ hc_15).mo
    have hmr := mo_J5_append_3fe6f_14 h0 _ _ _ _ _ hf
    refine q_ci hp hA (va_runU (As := []) (rest := []) ⟨hx, hb, hml, hown, hts⟩ (c_J5_isLatin1_aae02 l dC dI ka ad ct h0 _ _ _ hc_15 _) (va_cwU 0 hts gq_J5_append_3fe6f_J5_isLatin1_aae02_83 rfl rfl rfl rfl (by decide +kernel) ⟨Nat.le_of_ble_eq_true rfl, Nat.le_of_ble_eq_true rfl⟩) ⟨PrC.blind _, q_rv1 hK hp hC hk_13, q_pre hp hK hN hZ hC hR hL hA⟩ rfl rfl hl.1 rfl (lv_room (Nat.le_of_ble_eq_true rfl)) dJ5_append_3fe6f_11 ⟨by show qn gs - qn st + 0 ≤ qn st' - qn st; have := hmr.1; have := hm.1; have := hmc.1; omega, by show qs gs - qs st + 0 ≤ qs st' - qs st; have := hmr.2.1; have := hm.2.1; have := hmc.2.1; omega⟩) (fun H locs hp => ?_)
    have hk_13 : qk st_14 h0 = 2 := by rw [(mo_J5_isLatin1_aae02 h0 _ _ _ hc_15).2.2.1]; exact hk_13
    refine W.widen (k := qn st_14 - qn st) (n := qs st_14 - qs st) (by have := hmc.1; omega) (by have := hmc.2.1; omega) ?_
    have hm := hm.tr hmc
    exact J14 (l1, r_16, st_14) _ _ _ ⟨hf, hp, (lv_sub hl [0, 1] rfl), hm⟩
  unfold fJ5_append_3fe6f at hf
  refine lv_aload_n hx hb dJ5_append_3fe6f_0 rfl (lv_at hl 0 rfl) ?_
  refine lv_aload_n hx hb dJ5_append_3fe6f_1 rfl (lv_at hl 0 rfl) ?_
  obtain ⟨hk_17, hf⟩ := gd_some hf
  refine q_gi (ci := 1) (C := RJ4) (T := TJ4) (N := 4) (k := 3) hx hb hts iRJ4 hown hK hp hk_17 (by decide) rfl rfl (by decide) rfl (Or.inl (hts (.fieldLink RJ5 79 "java/lang/AbstractStringBuilder" "count" "I") (by decide +kernel))) (fun _ h9 => h9) dJ5_append_3fe6f_2 ?_
  refine lv_iconst (v := 1) hx hb dJ5_append_3fe6f_5 (by decide) ?_
  refine lv_iadd hx hb dJ5_append_3fe6f_6 ?_
  obtain ⟨st_18, hc_19, hf⟩ := bnv_some hf
  have lthk_17 := hp.2.2.1.lt (i := h0) (by rw [hk_17]; decide)
  have hmc := (mo_J5_ensureCapacityInternal_d00df h0 ((qI st h0 3) + 1) _ _ hc_19)
  have hmr := mo_J5_append_3fe6f_10 h0 _ _ _ _ hf
  refine q_cv hp hA (va_runU (As := [.int ((qI st h0 3) + 1)]) (rest := []) ⟨hx, hb, hml, hown, hts⟩ (c_J5_ensureCapacityInternal_d00df l dC dI ka ad ct h0 ((qI st h0 3) + 1) _ _ hc_19 _) (va_cwU 1 hts gq_J5_append_3fe6f_J5_ensureCapacityInternal_d00df_100 rfl rfl rfl rfl (by decide +kernel) ⟨Nat.le_of_ble_eq_true rfl, Nat.le_of_ble_eq_true rfl⟩) ⟨PrC.blind _, q_rv1 hK hp hC hk_17, q_pre hp hK hN hZ hC hR hL hA⟩ rfl rfl hl.1 rfl (lv_room (Nat.le_of_ble_eq_true rfl)) dJ5_append_3fe6f_7 ⟨by show qn st - qn st + (qn st_18 - qn st) ≤ qn st' - qn st; have := hmr.1; have := hm.1; have := hmc.1; omega, by show qs st - qs st + (qs st_18 - qs st) ≤ qs st' - qs st; have := hmr.2.1; have := hm.2.1; have := hmc.2.1; omega⟩) (fun H locs hp => ?_)
  have hk_17 : qk st_18 h0 = 2 := ((mo_J5_ensureCapacityInternal_d00df h0 ((qI st h0 3) + 1) _ _ hc_19).2.2 _ lthk_17).1.trans hk_17
  refine W.widen (k := qn st_18 - qn st) (n := qs st_18 - qs st) (by have := hm.1; have := hmc.1; omega) (by have := hm.2.1; have := hmc.2.1; omega) ?_
  have hm := hm.tr hmc
  exact J10 (p0, st_18) _ _ _ ⟨hf, hp, (lv_sub hl [0, 1] rfl), hm⟩
noncomputable def fJ4_append_cf468_5 (h0 : Nat)  (s0 : Option Nat) (gs : CS) : Option (Option Nat × CS) := some ((some h0), gs)
set_option maxHeartbeats 1000000 in
theorem mo_J4_append_cf468_5 (h0 : Nat)   (s0 : Option Nat) (gs : CS) (r : Option Nat) (st' : CS) (hf : fJ4_append_cf468_5 h0 s0 gs = some (r, st')) : Mo gs st' := by
  unfold fJ4_append_cf468_5 at hf
  have hm : Mo gs gs := Mo.rf
  obtain ⟨e1, e2⟩ := pr_some hf
  exact e2 ▸ hm
noncomputable def fJ4_append_cf468 (h0 : Nat) (p0 : Int32) (st : CS) : Option (Option Nat × CS) := gd (qk st h0 = 2) (bnd (fJ5_append_3fe6f h0 p0 st) (fun r_4 st_2 => fJ4_append_cf468_5 h0 r_4 st_2))
set_option maxHeartbeats 1000000 in
theorem mo_J4_append_cf468 (h0 : Nat) (p0 : Int32) (st : CS) (r : Option Nat) (st' : CS) (hf : fJ4_append_cf468 h0 p0 st = some (r, st')) : Mo st st' := by
  unfold fJ4_append_cf468 at hf
  have hm : Mo st st := Mo.rf
  obtain ⟨hk_1, hf⟩ := gd_some hf
  obtain ⟨r_4, st_2, hc_3, hf⟩ := bnd_some hf
  have hm := hm.tr (mo_J5_append_3fe6f h0 p0 _ _ _ hc_3)
  exact hm.tr (mo_J4_append_cf468_5 h0 r_4 st_2 _ _ hf)
def wq_J4_append_cf468 : List Cond := .code yJ4_append_cf468 cJ4_append_cf468 2 (some (.object "java/lang/StringBuilder")) :: (([.methodLink RJ4 50 yJ5_append_3fe6f, .sameMethod "java/lang/AbstractStringBuilder" "java/lang/AbstractStringBuilder" "append" "(C)Ljava/lang/AbstractStringBuilder;", .superclass RJ4 RJ5, .instanceMethod yJ5_append_3fe6f, .initialized RJ5, .code yJ5_append_3fe6f cJ5_append_3fe6f 2 (some (.object "java/lang/AbstractStringBuilder")), .fieldLink RJ5 79 "java/lang/AbstractStringBuilder" "count" "I", .fieldLink RJ5 15 "java/lang/AbstractStringBuilder" "value" "[B", .methodLink RJ5 191 yJ1_canEncode_fc78d, .static yJ1_canEncode_fc78d, .initialized RJ1, .methodLink RJ5 83 ⟨"java/lang/AbstractStringBuilder", "isLatin1", "()Z"⟩, .sameMethod "java/lang/AbstractStringBuilder" "java/lang/AbstractStringBuilder" "isLatin1" "()Z", .selects RJ4 ⟨"java/lang/AbstractStringBuilder", "isLatin1", "()Z"⟩ yJ5_isLatin1_aae02, .instanceMethod yJ5_isLatin1_aae02, .methodLink RJ5 100 ⟨"java/lang/AbstractStringBuilder", "ensureCapacityInternal", "(I)V"⟩, .sameMethod "java/lang/AbstractStringBuilder" "java/lang/AbstractStringBuilder" "ensureCapacityInternal" "(I)V", .selects RJ4 ⟨"java/lang/AbstractStringBuilder", "ensureCapacityInternal", "(I)V"⟩ yJ5_ensureCapacityInternal_d00df, .instanceMethod yJ5_ensureCapacityInternal_d00df, .code yJ1_canEncode_fc78d cJ1_canEncode_fc78d 1 (some .boolean), .code yJ5_isLatin1_aae02 cJ5_isLatin1_aae02 1 (some .boolean), .fieldLink RJ5 18 "java/lang/String" "COMPACT_STRINGS" "Z", .fieldLink RJ5 22 "java/lang/AbstractStringBuilder" "coder" "B", .code yJ5_ensureCapacityInternal_d00df cJ5_ensureCapacityInternal_d00df 3 none, .methodLink RJ5 108 yJ7_copyOf_9075b, .static yJ7_copyOf_9075b, .initialized RJ7, .methodLink RJ5 104 ⟨"java/lang/AbstractStringBuilder", "newCapacity", "(I)I"⟩, .sameMethod "java/lang/AbstractStringBuilder" "java/lang/AbstractStringBuilder" "newCapacity" "(I)I", .selects RJ4 ⟨"java/lang/AbstractStringBuilder", "newCapacity", "(I)I"⟩ yJ5_newCapacity_0f7a4, .instanceMethod yJ5_newCapacity_0f7a4, .code yJ7_copyOf_9075b cJ7_copyOf_9075b 3 (some (.array .byte)), .methodLink RJ7 304 Lib.Math.min.name, .static Lib.Math.min.name, .initialized "java/lang/Math", .code Lib.Math.min.name Lib.Math.min.code 2 (some .int), .methodLink RJ7 150 arraycopyName, .native arraycopyName, .static arraycopyName, .initialized "java/lang/System", .arrayClass .byte, .code yJ5_newCapacity_0f7a4 cJ5_newCapacity_0f7a4 6 (some .int), .constant RJ5 39 (2147483647), .methodLink RJ5 114 yJ8_newLength_cabcc, .static yJ8_newLength_cabcc, .initialized RJ8, .code yJ8_newLength_cabcc cJ8_newLength_cabcc 4 (some .int), .methodLink RJ8 194 Lib.Math.max.name, .static Lib.Math.max.name, .code Lib.Math.max.name Lib.Math.max.code 2 (some .int), .constant RJ8 200 (2147483639)] : List Cond) ++ wsJ40)
set_option maxRecDepth 20000 in
theorem gq_J4_append_cf468_J5_append_3fe6f_50 : GoodIn wq_J4_append_cf468 (va_wsSU RJ4 50 yJ5_append_3fe6f wq_J5_append_3fe6f) := goodIn_p _ [6, 20, 21, 24, 32, 36, 42, 47, 50] rfl (by decide +kernel)
set_option maxHeartbeats 4000000 in
set_option maxRecDepth 100000 in
theorem c_J4_append_cf468 (l : Launch) (dC : Nat → ClassId) (dI : Nat → Nat → Nat) (ka ad : Nat → Nat) (ct : Nat → ClassId) (h0 : Nat) (p0 : Int32) (st st' : CS) (r : Option Nat) (hf : fJ4_append_cf468 h0 p0 st = some (r, st')) (sz : Nat) : Met l yJ4_append_cf468 wq_J4_append_cf468 ({ frames := 5, cells := (qn st' - qn st), slots := (qs st' - qs st), locals := 151 }) (va_Pc [.ref (ad h0), .int p0] (PrC (dC, dI) ct ka ad st sz)) (va_Qq (fun r' (_ : Unit) => r' = Option.map ad r) (fun _ => CB (dC, dI) ct ka ad st' (aC ad st sz)) (aC ad st sz)) (qn st' - qn st) (qs st' - qs st) (aC ad st sz) := by
  refine Met.ofW (cc := cJ4_append_cf468) (maxL := 2) (ret := (some (.object "java/lang/StringBuilder"))) (by decide) rfl ?_
  intro p e s m args below meth c s₁ B hml hv
  obtain ⟨rfl, hsz, hw0, hK, hN, hZ, hC, hR, hL, hw1, hw2⟩ := hv
  have hx := B.exec
  have hb := B.bytes
  have hr := B.returns
  have hts := atoms_spec (ws := wq_J4_append_cf468) B.pre
  have hown : s.vm.findClass RJ4 = some m.cls := findClass_of_methodNamed B.named
  subst hsz
  have hp : Cp (dC, dI) ka ad ct (aC ad st s.heap.size) s.heap st s.heap [] := ⟨fun i a b => ⟨hw0 i a b, Or.inl ⟨i, a, b, rfl⟩⟩, va_S.rf, hw1, hw2⟩
  generalize hAe : aC ad st s.heap.size = A at hp hZ hC ⊢
  have hA : ∀ q : Nat, s.heap.size ≤ q → A q := fun q h => by rw [← hAe]; exact Or.inr h
  have hl := lv_entry ([.ref (ad h0), .int p0]) (n := 2) (Nat.le_of_ble_eq_true rfl)
  rw [lg_entry_eq]
  generalize (lg_sl ([.ref (ad h0), .int p0]) ++ List.replicate (2 - (lg_sl ([.ref (ad h0), .int p0])).length) Slot.unset).toArray = ls at hl ⊢
  have hl : lv_has ls 2 [(0, .ref (ad h0)), (1, .int p0)] := hl
  have hm : Mo st st := Mo.rf
  refine W.widen (k := qn st - qn st) (n := qs st - qs st) (Nat.zero_le _) (Nat.zero_le _) ?_
  refine W_blkA (fun (u : (Option Nat) × CS) H locs ls => match u with | (s0, gs) => fJ4_append_cf468_5 h0 s0 gs = some (r, st') ∧ Cp (dC, dI) ka ad ct A s.heap gs H locs ∧ lv_has ls 2 [(0, .ref (ad h0))] ∧ Mo st gs) (fun (u : (Option Nat) × CS) ls => match u with | (s0, gs) => F0 m 5 ls [va_rf (Option.map ad s0)]) (fun (u : (Option Nat) × CS) => match u with | (s0, gs) => qn gs - qn st) (fun (u : (Option Nat) × CS) => match u with | (s0, gs) => qs gs - qs st) ?_ (fun J5 => ?_)
  · intro u H locs ls hu
    obtain ⟨s0, gs⟩ := u
    obtain ⟨hf, hp, hl, hm⟩ := hu
    show W p l e _ s m _ below meth c _ _ (qn gs - qn st) (qs gs - qs st) _ (F0 m 5 ls [va_rf (Option.map ad s0)])
    unfold fJ4_append_cf468_5 at hf
    refine lv_pop hx hb dJ4_append_cf468_5 (rf_cat _) ?_
    refine lv_aload_n hx hb dJ4_append_cf468_6 rfl (lv_at hl 0 rfl) ?_
    obtain ⟨e1, e2⟩ := pr_some hf
    refine W.widen (k := qn st' - qn st) (n := qs st' - qs st) (by rw [e2]; exact Nat.le_refl _) (by rw [e2]; exact Nat.le_refl _) ?_
    exact W.aret (v := va_rf (Option.map ad (some h0))) hx hb hr (Or.inl ⟨_, rfl⟩) (rf_or _) (fun t ht hW => ⟨⟨Option.map ad (some h0), (), rfl, by rw [e1], Cp.end e2 hp ht⟩, hp.2.1.F ht⟩) hp.2.1.2.2 dJ4_append_cf468_7
  unfold fJ4_append_cf468 at hf
  refine lv_aload_n hx hb dJ4_append_cf468_0 rfl (lv_at hl 0 rfl) ?_
  refine lv_iload_n hx hb dJ4_append_cf468_1 rfl (lv_at hl 1 rfl) ?_
  obtain ⟨hk_1, hf⟩ := gd_some hf
  obtain ⟨r_4, st_2, hc_3, hf⟩ := bnd_some hf
  have lthk_1 := hp.2.2.1.lt (i := h0) (by rw [hk_1]; decide)
  have hmc := (mo_J5_append_3fe6f h0 p0 _ _ _ hc_3)
  have hmr := mo_J4_append_cf468_5 h0 _ _ _ _ hf
  refine q_cq hp hA (va_runSU (As := [.int p0]) (rest := []) (hK.1 1 _ rfl).2 ⟨hx, hb, hml, hown, hts⟩ (c_J5_append_3fe6f l dC dI ka ad ct h0 p0 _ _ _ hc_3 _) (va_cwSU 1 hts gq_J4_append_cf468_J5_append_3fe6f_50 rfl rfl rfl (by decide +kernel) ⟨Nat.le_of_ble_eq_true rfl, Nat.le_of_ble_eq_true rfl⟩) ⟨PrC.blind _, q_rv1 hK hp hC hk_1, q_pre hp hK hN hZ hC hR hL hA⟩ rfl rfl hl.1 rfl (lv_room (Nat.le_of_ble_eq_true rfl)) dJ4_append_cf468_2 ⟨by show qn st - qn st + (qn st_2 - qn st) ≤ qn st' - qn st; have := hmr.1; have := hm.1; have := hmc.1; omega, by show qs st - qs st + (qs st_2 - qs st) ≤ qs st' - qs st; have := hmr.2.1; have := hm.2.1; have := hmc.2.1; omega⟩) (fun H locs hp => ?_)
  have hk_1 : qk st_2 h0 = 2 := ((mo_J5_append_3fe6f h0 p0 _ _ _ hc_3).2.2 _ lthk_1).1.trans hk_1
  refine W.widen (k := qn st_2 - qn st) (n := qs st_2 - qs st) (by have := hm.1; have := hmc.1; omega) (by have := hm.2.1; have := hmc.2.1; omega) ?_
  have hm := hm.tr hmc
  exact J5 (r_4, st_2) _ _ _ ⟨hf, hp, (lv_sub hl [0] rfl), hm⟩
noncomputable def fJ5_setLength_d00df_76 (h0 : Nat)  (l1 : Int32) (gs : CS) : Option (CS) := gd (qk gs h0 = 2) (nam (wI gs h0 3 l1) (fun st_2 => some st_2))
set_option maxHeartbeats 1000000 in
theorem mo_J5_setLength_d00df_76 (h0 : Nat)   (l1 : Int32) (gs : CS) (st' : CS) (hf : fJ5_setLength_d00df_76 h0 l1 gs = some st') : Mo gs st' := by
  unfold fJ5_setLength_d00df_76 at hf
  have hm : Mo gs gs := Mo.rf
  obtain ⟨hk_1, hf⟩ := gd_some hf
  obtain ⟨st_2, est_2, hf⟩ := nam_some hf
  have hm := hm.wI est_2
  have e2 := Option.some.inj hf
  exact e2 ▸ hm
noncomputable def fJ5_setLength_d00df_18 (h0 : Nat)  (l1 : Int32) (gs : CS) : Option (CS) := gd (qk gs h0 = 2) (pif (l1 ≤ (qI gs h0 3)) (pif ((qI gs h0 3) ≤ l1) (fJ5_setLength_d00df_76 h0 l1 gs) (nam (wI gs h0 2 1) (fun st_6 => fJ5_setLength_d00df_76 h0 l1 st_6))) (none))
set_option maxHeartbeats 1000000 in
theorem mo_J5_setLength_d00df_18 (h0 : Nat)   (l1 : Int32) (gs : CS) (st' : CS) (hf : fJ5_setLength_d00df_18 h0 l1 gs = some st') : Mo gs st' := by
  unfold fJ5_setLength_d00df_18 at hf
  have hm : Mo gs gs := Mo.rf
  obtain ⟨hk_3, hf⟩ := gd_some hf
  rcases pif_or hf with ⟨c_4, hf⟩ | ⟨c_4, hf⟩
  · rcases pif_or hf with ⟨c_5, hf⟩ | ⟨c_5, hf⟩
    · exact hm.tr (mo_J5_setLength_d00df_76 h0 l1 gs _ hf)
    · obtain ⟨st_6, est_6, hf⟩ := nam_some hf
      have hm := hm.wI est_6
      exact hm.tr (mo_J5_setLength_d00df_76 h0 l1 st_6 _ hf)
  · cases hf
noncomputable def fJ5_setLength_d00df (h0 : Nat) (p0 : Int32) (st : CS) : Option (CS) := pif (0 ≤ p0) (gd (qk st h0 = 2) (bnv (fJ5_ensureCapacityInternal_d00df h0 p0 st) (fun st_9 => fJ5_setLength_d00df_18 h0 p0 st_9))) (none)
set_option maxHeartbeats 1000000 in
theorem mo_J5_setLength_d00df (h0 : Nat) (p0 : Int32) (st : CS) (st' : CS) (hf : fJ5_setLength_d00df h0 p0 st = some st') : Mo st st' := by
  unfold fJ5_setLength_d00df at hf
  have hm : Mo st st := Mo.rf
  rcases pif_or hf with ⟨c_7, hf⟩ | ⟨c_7, hf⟩
  · obtain ⟨hk_8, hf⟩ := gd_some hf
    obtain ⟨st_9, hc_10, hf⟩ := bnv_some hf
    have hm := hm.tr (mo_J5_ensureCapacityInternal_d00df h0 p0 _ _ hc_10)
    exact hm.tr (mo_J5_setLength_d00df_18 h0 p0 st_9 _ hf)
  · cases hf
def wq_J5_setLength_d00df : List Cond := .code yJ5_setLength_d00df cJ5_setLength_d00df 2 none :: (([.fieldLink RJ5 79 "java/lang/AbstractStringBuilder" "count" "I", .fieldLink RJ5 73 "java/lang/AbstractStringBuilder" "maybeLatin1" "Z", .methodLink RJ5 100 ⟨"java/lang/AbstractStringBuilder", "ensureCapacityInternal", "(I)V"⟩, .sameMethod "java/lang/AbstractStringBuilder" "java/lang/AbstractStringBuilder" "ensureCapacityInternal" "(I)V", .selects RJ4 ⟨"java/lang/AbstractStringBuilder", "ensureCapacityInternal", "(I)V"⟩ yJ5_ensureCapacityInternal_d00df, .instanceMethod yJ5_ensureCapacityInternal_d00df, .initialized RJ5, .code yJ5_ensureCapacityInternal_d00df cJ5_ensureCapacityInternal_d00df 3 none, .fieldLink RJ5 15 "java/lang/AbstractStringBuilder" "value" "[B", .fieldLink RJ5 22 "java/lang/AbstractStringBuilder" "coder" "B", .methodLink RJ5 108 yJ7_copyOf_9075b, .static yJ7_copyOf_9075b, .initialized RJ7, .methodLink RJ5 104 ⟨"java/lang/AbstractStringBuilder", "newCapacity", "(I)I"⟩, .sameMethod "java/lang/AbstractStringBuilder" "java/lang/AbstractStringBuilder" "newCapacity" "(I)I", .selects RJ4 ⟨"java/lang/AbstractStringBuilder", "newCapacity", "(I)I"⟩ yJ5_newCapacity_0f7a4, .instanceMethod yJ5_newCapacity_0f7a4, .code yJ7_copyOf_9075b cJ7_copyOf_9075b 3 (some (.array .byte)), .methodLink RJ7 304 Lib.Math.min.name, .static Lib.Math.min.name, .initialized "java/lang/Math", .code Lib.Math.min.name Lib.Math.min.code 2 (some .int), .methodLink RJ7 150 arraycopyName, .native arraycopyName, .static arraycopyName, .initialized "java/lang/System", .arrayClass .byte, .code yJ5_newCapacity_0f7a4 cJ5_newCapacity_0f7a4 6 (some .int), .constant RJ5 39 (2147483647), .methodLink RJ5 114 yJ8_newLength_cabcc, .static yJ8_newLength_cabcc, .initialized RJ8, .code yJ8_newLength_cabcc cJ8_newLength_cabcc 4 (some .int), .methodLink RJ8 194 Lib.Math.max.name, .static Lib.Math.max.name, .code Lib.Math.max.name Lib.Math.max.code 2 (some .int), .constant RJ8 200 (2147483639)] : List Cond) ++ wsJ40)
set_option maxRecDepth 20000 in
theorem gq_J5_setLength_d00df_J5_ensureCapacityInternal_d00df_100 : GoodIn wq_J5_setLength_d00df (va_wsU RJ5 100 RJ4 RJ5 ⟨"java/lang/AbstractStringBuilder", "ensureCapacityInternal", "(I)V"⟩ yJ5_ensureCapacityInternal_d00df wq_J5_ensureCapacityInternal_d00df) := goodIn_p _ [8, 18, 22, 28, 33, 36] rfl (by decide +kernel)
set_option maxHeartbeats 4000000 in
set_option maxRecDepth 100000 in
theorem c_J5_setLength_d00df (l : Launch) (dC : Nat → ClassId) (dI : Nat → Nat → Nat) (ka ad : Nat → Nat) (ct : Nat → ClassId) (h0 : Nat) (p0 : Int32) (st st' : CS) (hf : fJ5_setLength_d00df h0 p0 st = some st') (sz : Nat) : Met l yJ5_setLength_d00df wq_J5_setLength_d00df ({ frames := 4, cells := (qn st' - qn st), slots := (qs st' - qs st), locals := 126 }) (va_Pc [.ref (ad h0), .int p0] (PrC (dC, dI) ct ka ad st sz)) (va_Qv (fun (_ : Unit) => True) (fun _ => CB (dC, dI) ct ka ad st' (aC ad st sz)) (aC ad st sz)) (qn st' - qn st) (qs st' - qs st) (aC ad st sz) := by
  refine Met.ofW (cc := cJ5_setLength_d00df) (maxL := 2) (ret := none) (by decide) rfl ?_
  intro p e s m args below meth c s₁ B hml hv
  obtain ⟨rfl, hsz, hw0, hK, hN, hZ, hC, hR, hL, hw1, hw2⟩ := hv
  have hx := B.exec
  have hb := B.bytes
  have hr := B.returns
  have hts := atoms_spec (ws := wq_J5_setLength_d00df) B.pre
  have hown : s.vm.findClass RJ5 = some m.cls := findClass_of_methodNamed B.named
  have iRJ4 : ∀ w ∈ u_ws RJ4 TJ4 4, w ∈ wq_J5_setLength_d00df := fun w h => List.mem_cons_of_mem _ (List.mem_append_right _ h)
  subst hsz
  have hp : Cp (dC, dI) ka ad ct (aC ad st s.heap.size) s.heap st s.heap [] := ⟨fun i a b => ⟨hw0 i a b, Or.inl ⟨i, a, b, rfl⟩⟩, va_S.rf, hw1, hw2⟩
  generalize hAe : aC ad st s.heap.size = A at hp hZ hC ⊢
  have hA : ∀ q : Nat, s.heap.size ≤ q → A q := fun q h => by rw [← hAe]; exact Or.inr h
  have hl := lv_entry ([.ref (ad h0), .int p0]) (n := 2) (Nat.le_of_ble_eq_true rfl)
  rw [lg_entry_eq]
  generalize (lg_sl ([.ref (ad h0), .int p0]) ++ List.replicate (2 - (lg_sl ([.ref (ad h0), .int p0])).length) Slot.unset).toArray = ls at hl ⊢
  have hl : lv_has ls 2 [(0, .ref (ad h0)), (1, .int p0)] := hl
  have hm : Mo st st := Mo.rf
  refine W.widen (k := qn st - qn st) (n := qs st - qs st) (Nat.zero_le _) (Nat.zero_le _) ?_
  refine W_blkA (fun (u : Int32 × CS) H locs ls => match u with | (l1, gs) => fJ5_setLength_d00df_76 h0 l1 gs = some st' ∧ Cp (dC, dI) ka ad ct A s.heap gs H locs ∧ lv_has ls 2 [(0, .ref (ad h0)), (1, .int l1)] ∧ Mo st gs) (fun (u : Int32 × CS) ls => match u with | (l1, gs) => F0 m 76 ls []) (fun (u : Int32 × CS) => match u with | (l1, gs) => qn gs - qn st) (fun (u : Int32 × CS) => match u with | (l1, gs) => qs gs - qs st) ?_ (fun J76 => ?_)
  · intro u H locs ls hu
    obtain ⟨l1, gs⟩ := u
    obtain ⟨hf, hp, hl, hm⟩ := hu
    show W p l e _ s m _ below meth c _ _ (qn gs - qn st) (qs gs - qs st) _ (F0 m 76 ls [])
    unfold fJ5_setLength_d00df_76 at hf
    refine lv_aload_n hx hb dJ5_setLength_d00df_76 rfl (lv_at hl 0 rfl) ?_
    refine lv_iload_n hx hb dJ5_setLength_d00df_77 rfl (lv_at hl 1 rfl) ?_
    obtain ⟨hk_1, hf⟩ := gd_some hf
    refine q_pi (ci := 1) (C := RJ4) (T := TJ4) (N := 4) (k := 3) (v := l1) (ty := .int) hx hb hts iRJ4 tyJ4 tyJ4_ok nmJ4 hown hK hp hk_1 (by decide) rfl rfl (by decide) rfl (Or.inl (hts (.fieldLink RJ5 79 "java/lang/AbstractStringBuilder" "count" "I") (by decide +kernel))) (fun _ h9 => h9) rfl (by decide +kernel) rfl rfl dJ5_setLength_d00df_78 (fun H locs hp => ?_)
    obtain ⟨st_2, est_2, hf⟩ := nam_some hf
    rw [← est_2] at hp
    have hm := hm.wI est_2
    refine W.widen (k := qn st_2 - qn st) (n := qs st_2 - qs st) (by rw [est_2]; exact Nat.le_refl _) (by rw [est_2]; exact Nat.le_refl _) ?_
    have hk_1 : qk st_2 h0 = 2 := by rw [est_2]; exact hk_1
    have e2 := Option.some.inj hf
    refine W.widen (k := qn st' - qn st) (n := qs st' - qs st) (by rw [e2]; exact Nat.le_refl _) (by rw [e2]; exact Nat.le_refl _) ?_
    exact W.vret hx hb hr (fun t ht hW => ⟨⟨(), rfl, trivial, Cp.end e2 hp ht⟩, hp.2.1.F ht⟩) hp.2.1.2.2 dJ5_setLength_d00df_81
  refine W_blkA (fun (u : Int32 × CS) H locs ls => match u with | (l1, gs) => fJ5_setLength_d00df_18 h0 l1 gs = some st' ∧ Cp (dC, dI) ka ad ct A s.heap gs H locs ∧ lv_has ls 2 [(0, .ref (ad h0)), (1, .int l1)] ∧ Mo st gs) (fun (u : Int32 × CS) ls => match u with | (l1, gs) => F0 m 18 ls []) (fun (u : Int32 × CS) => match u with | (l1, gs) => qn gs - qn st) (fun (u : Int32 × CS) => match u with | (l1, gs) => qs gs - qs st) ?_ (fun J18 => ?_)
  · intro u H locs ls hu
    obtain ⟨l1, gs⟩ := u
    obtain ⟨hf, hp, hl, hm⟩ := hu
    show W p l e _ s m _ below meth c _ _ (qn gs - qn st) (qs gs - qs st) _ (F0 m 18 ls [])
    unfold fJ5_setLength_d00df_18 at hf
    refine lv_aload_n hx hb dJ5_setLength_d00df_18 rfl (lv_at hl 0 rfl) ?_
    obtain ⟨hk_3, hf⟩ := gd_some hf
    refine q_gi (ci := 1) (C := RJ4) (T := TJ4) (N := 4) (k := 3) hx hb hts iRJ4 hown hK hp hk_3 (by decide) rfl rfl (by decide) rfl (Or.inl (hts (.fieldLink RJ5 79 "java/lang/AbstractStringBuilder" "count" "I") (by decide +kernel))) (fun _ h9 => h9) dJ5_setLength_d00df_19 ?_
    refine lv_iload_n hx hb dJ5_setLength_d00df_22 rfl (lv_at hl 1 rfl) ?_
    refine lv_icmp_ge (tgt := 63) hx hb dJ5_setLength_d00df_23 (by decide) (fun c_4 => ?_) (fun c_4 => ?_)
    · have hf := pif_t c_4 hf
      refine lv_aload_n hx hb dJ5_setLength_d00df_63 rfl (lv_at hl 0 rfl) ?_
      refine q_gi (ci := 1) (C := RJ4) (T := TJ4) (N := 4) (k := 3) hx hb hts iRJ4 hown hK hp hk_3 (by decide) rfl rfl (by decide) rfl (Or.inl (hts (.fieldLink RJ5 79 "java/lang/AbstractStringBuilder" "count" "I") (by decide +kernel))) (fun _ h9 => h9) dJ5_setLength_d00df_64 ?_
      refine lv_iload_n hx hb dJ5_setLength_d00df_67 rfl (lv_at hl 1 rfl) ?_
      refine lv_icmp_le (tgt := 76) hx hb dJ5_setLength_d00df_68 (by decide) (fun c_5 => ?_) (fun c_5 => ?_)
      · have hf := pif_t c_5 hf
        exact J76 (l1, gs) _ _ _ ⟨hf, hp, (lv_sub hl [0, 1] rfl), hm⟩
      · have hf := pif_f c_5 hf
        refine lv_aload_n hx hb dJ5_setLength_d00df_71 rfl (lv_at hl 0 rfl) ?_
        refine lv_iconst (v := 1) hx hb dJ5_setLength_d00df_72 (by decide) ?_
        refine q_pi (ci := 1) (C := RJ4) (T := TJ4) (N := 4) (k := 2) (v := 1) (ty := .boolean) hx hb hts iRJ4 tyJ4 tyJ4_ok nmJ4 hown hK hp hk_3 (by decide) rfl rfl (by decide) rfl (Or.inl (hts (.fieldLink RJ5 73 "java/lang/AbstractStringBuilder" "maybeLatin1" "Z") (by decide +kernel))) (fun _ h9 => h9) rfl (by decide +kernel) rfl rfl dJ5_setLength_d00df_73 (fun H locs hp => ?_)
        obtain ⟨st_6, est_6, hf⟩ := nam_some hf
        rw [← est_6] at hp
        have hm := hm.wI est_6
        refine W.widen (k := qn st_6 - qn st) (n := qs st_6 - qs st) (by rw [est_6]; exact Nat.le_refl _) (by rw [est_6]; exact Nat.le_refl _) ?_
        have hk_3 : qk st_6 h0 = 2 := by rw [est_6]; exact hk_3
        exact J76 (l1, st_6) _ _ _ ⟨hf, hp, (lv_sub hl [0, 1] rfl), hm⟩
    · have hf := pif_f c_4 hf
      cases hf
  unfold fJ5_setLength_d00df at hf
  refine lv_iload_n hx hb dJ5_setLength_d00df_0 rfl (lv_at hl 1 rfl) ?_
  refine lv_if_ge (tgt := 13) hx hb dJ5_setLength_d00df_1 (by decide) (fun c_7 => ?_) (fun c_7 => ?_)
  · have hf := pif_t c_7 hf
    refine lv_aload_n hx hb dJ5_setLength_d00df_13 rfl (lv_at hl 0 rfl) ?_
    refine lv_iload_n hx hb dJ5_setLength_d00df_14 rfl (lv_at hl 1 rfl) ?_
    obtain ⟨hk_8, hf⟩ := gd_some hf
    obtain ⟨st_9, hc_10, hf⟩ := bnv_some hf
    have lthk_8 := hp.2.2.1.lt (i := h0) (by rw [hk_8]; decide)
    have hmc := (mo_J5_ensureCapacityInternal_d00df h0 p0 _ _ hc_10)
    have hmr := mo_J5_setLength_d00df_18 h0 _ _ _ hf
    refine q_cv hp hA (va_runU (As := [.int p0]) (rest := []) ⟨hx, hb, hml, hown, hts⟩ (c_J5_ensureCapacityInternal_d00df l dC dI ka ad ct h0 p0 _ _ hc_10 _) (va_cwU 1 hts gq_J5_setLength_d00df_J5_ensureCapacityInternal_d00df_100 rfl rfl rfl rfl (by decide +kernel) ⟨Nat.le_of_ble_eq_true rfl, Nat.le_of_ble_eq_true rfl⟩) ⟨PrC.blind _, q_rv1 hK hp hC hk_8, q_pre hp hK hN hZ hC hR hL hA⟩ rfl rfl hl.1 rfl (lv_room (Nat.le_of_ble_eq_true rfl)) dJ5_setLength_d00df_15 ⟨by show qn st - qn st + (qn st_9 - qn st) ≤ qn st' - qn st; have := hmr.1; have := hm.1; have := hmc.1; omega, by show qs st - qs st + (qs st_9 - qs st) ≤ qs st' - qs st; have := hmr.2.1; have := hm.2.1; have := hmc.2.1; omega⟩) (fun H locs hp => ?_)
    have hk_8 : qk st_9 h0 = 2 := ((mo_J5_ensureCapacityInternal_d00df h0 p0 _ _ hc_10).2.2 _ lthk_8).1.trans hk_8
    refine W.widen (k := qn st_9 - qn st) (n := qs st_9 - qs st) (by have := hm.1; have := hmc.1; omega) (by have := hm.2.1; have := hmc.2.1; omega) ?_
    have hm := hm.tr hmc
    exact J18 (p0, st_9) _ _ _ ⟨hf, hp, (lv_sub hl [0, 1] rfl), hm⟩
  · have hf := pif_f c_7 hf
    cases hf
noncomputable def fJ4_setLength_d00df_5 (h0 : Nat)  (gs : CS) : Option (CS) := some gs
set_option maxHeartbeats 1000000 in
theorem mo_J4_setLength_d00df_5 (h0 : Nat)   (gs : CS) (st' : CS) (hf : fJ4_setLength_d00df_5 h0 gs = some st') : Mo gs st' := by
  unfold fJ4_setLength_d00df_5 at hf
  have hm : Mo gs gs := Mo.rf
  have e2 := Option.some.inj hf
  exact e2 ▸ hm
noncomputable def fJ4_setLength_d00df (h0 : Nat) (p0 : Int32) (st : CS) : Option (CS) := gd (qk st h0 = 2) (bnv (fJ5_setLength_d00df h0 p0 st) (fun st_2 => fJ4_setLength_d00df_5 h0 st_2))
set_option maxHeartbeats 1000000 in
theorem mo_J4_setLength_d00df (h0 : Nat) (p0 : Int32) (st : CS) (st' : CS) (hf : fJ4_setLength_d00df h0 p0 st = some st') : Mo st st' := by
  unfold fJ4_setLength_d00df at hf
  have hm : Mo st st := Mo.rf
  obtain ⟨hk_1, hf⟩ := gd_some hf
  obtain ⟨st_2, hc_3, hf⟩ := bnv_some hf
  have hm := hm.tr (mo_J5_setLength_d00df h0 p0 _ _ hc_3)
  exact hm.tr (mo_J4_setLength_d00df_5 h0 st_2 _ hf)
def wq_J4_setLength_d00df : List Cond := .code yJ4_setLength_d00df cJ4_setLength_d00df 2 none :: (([.methodLink RJ4 333 yJ5_setLength_d00df, .sameMethod "java/lang/AbstractStringBuilder" "java/lang/AbstractStringBuilder" "setLength" "(I)V", .superclass RJ4 RJ5, .instanceMethod yJ5_setLength_d00df, .initialized RJ5, .code yJ5_setLength_d00df cJ5_setLength_d00df 2 none, .fieldLink RJ5 79 "java/lang/AbstractStringBuilder" "count" "I", .fieldLink RJ5 73 "java/lang/AbstractStringBuilder" "maybeLatin1" "Z", .methodLink RJ5 100 ⟨"java/lang/AbstractStringBuilder", "ensureCapacityInternal", "(I)V"⟩, .sameMethod "java/lang/AbstractStringBuilder" "java/lang/AbstractStringBuilder" "ensureCapacityInternal" "(I)V", .selects RJ4 ⟨"java/lang/AbstractStringBuilder", "ensureCapacityInternal", "(I)V"⟩ yJ5_ensureCapacityInternal_d00df, .instanceMethod yJ5_ensureCapacityInternal_d00df, .code yJ5_ensureCapacityInternal_d00df cJ5_ensureCapacityInternal_d00df 3 none, .fieldLink RJ5 15 "java/lang/AbstractStringBuilder" "value" "[B", .fieldLink RJ5 22 "java/lang/AbstractStringBuilder" "coder" "B", .methodLink RJ5 108 yJ7_copyOf_9075b, .static yJ7_copyOf_9075b, .initialized RJ7, .methodLink RJ5 104 ⟨"java/lang/AbstractStringBuilder", "newCapacity", "(I)I"⟩, .sameMethod "java/lang/AbstractStringBuilder" "java/lang/AbstractStringBuilder" "newCapacity" "(I)I", .selects RJ4 ⟨"java/lang/AbstractStringBuilder", "newCapacity", "(I)I"⟩ yJ5_newCapacity_0f7a4, .instanceMethod yJ5_newCapacity_0f7a4, .code yJ7_copyOf_9075b cJ7_copyOf_9075b 3 (some (.array .byte)), .methodLink RJ7 304 Lib.Math.min.name, .static Lib.Math.min.name, .initialized "java/lang/Math", .code Lib.Math.min.name Lib.Math.min.code 2 (some .int), .methodLink RJ7 150 arraycopyName, .native arraycopyName, .static arraycopyName, .initialized "java/lang/System", .arrayClass .byte, .code yJ5_newCapacity_0f7a4 cJ5_newCapacity_0f7a4 6 (some .int), .constant RJ5 39 (2147483647), .methodLink RJ5 114 yJ8_newLength_cabcc, .static yJ8_newLength_cabcc, .initialized RJ8, .code yJ8_newLength_cabcc cJ8_newLength_cabcc 4 (some .int), .methodLink RJ8 194 Lib.Math.max.name, .static Lib.Math.max.name, .code Lib.Math.max.name Lib.Math.max.code 2 (some .int), .constant RJ8 200 (2147483639)] : List Cond) ++ wsJ40)
set_option maxRecDepth 20000 in
theorem gq_J4_setLength_d00df_J5_setLength_d00df_333 : GoodIn wq_J4_setLength_d00df (va_wsSU RJ4 333 yJ5_setLength_d00df wq_J5_setLength_d00df) := goodIn_p _ [6, 13, 23, 27, 33, 38, 41] rfl (by decide +kernel)
set_option maxHeartbeats 4000000 in
set_option maxRecDepth 100000 in
theorem c_J4_setLength_d00df (l : Launch) (dC : Nat → ClassId) (dI : Nat → Nat → Nat) (ka ad : Nat → Nat) (ct : Nat → ClassId) (h0 : Nat) (p0 : Int32) (st st' : CS) (hf : fJ4_setLength_d00df h0 p0 st = some st') (sz : Nat) : Met l yJ4_setLength_d00df wq_J4_setLength_d00df ({ frames := 5, cells := (qn st' - qn st), slots := (qs st' - qs st), locals := 151 }) (va_Pc [.ref (ad h0), .int p0] (PrC (dC, dI) ct ka ad st sz)) (va_Qv (fun (_ : Unit) => True) (fun _ => CB (dC, dI) ct ka ad st' (aC ad st sz)) (aC ad st sz)) (qn st' - qn st) (qs st' - qs st) (aC ad st sz) := by
  refine Met.ofW (cc := cJ4_setLength_d00df) (maxL := 2) (ret := none) (by decide) rfl ?_
  intro p e s m args below meth c s₁ B hml hv
  obtain ⟨rfl, hsz, hw0, hK, hN, hZ, hC, hR, hL, hw1, hw2⟩ := hv
  have hx := B.exec
  have hb := B.bytes
  have hr := B.returns
  have hts := atoms_spec (ws := wq_J4_setLength_d00df) B.pre
  have hown : s.vm.findClass RJ4 = some m.cls := findClass_of_methodNamed B.named
  subst hsz
  have hp : Cp (dC, dI) ka ad ct (aC ad st s.heap.size) s.heap st s.heap [] := ⟨fun i a b => ⟨hw0 i a b, Or.inl ⟨i, a, b, rfl⟩⟩, va_S.rf, hw1, hw2⟩
  generalize hAe : aC ad st s.heap.size = A at hp hZ hC ⊢
  have hA : ∀ q : Nat, s.heap.size ≤ q → A q := fun q h => by rw [← hAe]; exact Or.inr h
  have hl := lv_entry ([.ref (ad h0), .int p0]) (n := 2) (Nat.le_of_ble_eq_true rfl)
  rw [lg_entry_eq]
  generalize (lg_sl ([.ref (ad h0), .int p0]) ++ List.replicate (2 - (lg_sl ([.ref (ad h0), .int p0])).length) Slot.unset).toArray = ls at hl ⊢
  have hl : lv_has ls 2 [(0, .ref (ad h0)), (1, .int p0)] := hl
  have hm : Mo st st := Mo.rf
  refine W.widen (k := qn st - qn st) (n := qs st - qs st) (Nat.zero_le _) (Nat.zero_le _) ?_
  refine W_blkA (fun (gs : CS) H locs ls => fJ4_setLength_d00df_5 h0 gs = some st' ∧ Cp (dC, dI) ka ad ct A s.heap gs H locs ∧ lv_has ls 2 [] ∧ Mo st gs) (fun (gs : CS) ls => F0 m 5 ls []) (fun (gs : CS) => qn gs - qn st) (fun (gs : CS) => qs gs - qs st) ?_ (fun J5 => ?_)
  · intro u H locs ls hu
    obtain ⟨gs, rfl⟩ : ∃ z, z = u := ⟨_, rfl⟩
    obtain ⟨hf, hp, hl, hm⟩ := hu
    show W p l e _ s m _ below meth c _ _ (qn gs - qn st) (qs gs - qs st) _ (F0 m 5 ls [])
    unfold fJ4_setLength_d00df_5 at hf
    have e2 := Option.some.inj hf
    refine W.widen (k := qn st' - qn st) (n := qs st' - qs st) (by rw [e2]; exact Nat.le_refl _) (by rw [e2]; exact Nat.le_refl _) ?_
    exact W.vret hx hb hr (fun t ht hW => ⟨⟨(), rfl, trivial, Cp.end e2 hp ht⟩, hp.2.1.F ht⟩) hp.2.1.2.2 dJ4_setLength_d00df_5
  unfold fJ4_setLength_d00df at hf
  refine lv_aload_n hx hb dJ4_setLength_d00df_0 rfl (lv_at hl 0 rfl) ?_
  refine lv_iload_n hx hb dJ4_setLength_d00df_1 rfl (lv_at hl 1 rfl) ?_
  obtain ⟨hk_1, hf⟩ := gd_some hf
  obtain ⟨st_2, hc_3, hf⟩ := bnv_some hf
  have lthk_1 := hp.2.2.1.lt (i := h0) (by rw [hk_1]; decide)
  have hmc := (mo_J5_setLength_d00df h0 p0 _ _ hc_3)
  have hmr := mo_J4_setLength_d00df_5 h0  _ _ hf
  refine q_cv hp hA (va_runSU (As := [.int p0]) (rest := []) (hK.1 1 _ rfl).2 ⟨hx, hb, hml, hown, hts⟩ (c_J5_setLength_d00df l dC dI ka ad ct h0 p0 _ _ hc_3 _) (va_cwSU 1 hts gq_J4_setLength_d00df_J5_setLength_d00df_333 rfl rfl rfl (by decide +kernel) ⟨Nat.le_of_ble_eq_true rfl, Nat.le_of_ble_eq_true rfl⟩) ⟨PrC.blind _, q_rv1 hK hp hC hk_1, q_pre hp hK hN hZ hC hR hL hA⟩ rfl rfl hl.1 rfl (lv_room (Nat.le_of_ble_eq_true rfl)) dJ4_setLength_d00df_2 ⟨by show qn st - qn st + (qn st_2 - qn st) ≤ qn st' - qn st; have := hmr.1; have := hm.1; have := hmc.1; omega, by show qs st - qs st + (qs st_2 - qs st) ≤ qs st' - qs st; have := hmr.2.1; have := hm.2.1; have := hmc.2.1; omega⟩) (fun H locs hp => ?_)
  have hk_1 : qk st_2 h0 = 2 := ((mo_J5_setLength_d00df h0 p0 _ _ hc_3).2.2 _ lthk_1).1.trans hk_1
  refine W.widen (k := qn st_2 - qn st) (n := qs st_2 - qs st) (by have := hm.1; have := hmc.1; omega) (by have := hm.2.1; have := hmc.2.1; omega) ?_
  have hm := hm.tr hmc
  exact J5 st_2 _ _ _ ⟨hf, hp, (lv_sub hl [] rfl), hm⟩
noncomputable def fJ7_checkLength_df160 (p0 : Int32) (p1 : Int32) (st : CS) : Option (CS) := pif (p0 ≤ p1) (some st) (none)
set_option maxHeartbeats 1000000 in
theorem mo_J7_checkLength_df160 (p0 : Int32) (p1 : Int32) (st : CS) (st' : CS) (hf : fJ7_checkLength_df160 p0 p1 st = some st') : Ke st st' := by
  unfold fJ7_checkLength_df160 at hf
  have hm : Ke st st := Ke.rf
  rcases pif_or hf with ⟨c_1, hf⟩ | ⟨c_1, hf⟩
  · have e2 := Option.some.inj hf
    exact e2 ▸ hm
  · cases hf
def wq_J7_checkLength_df160 : List Cond := .code yJ7_checkLength_df160 cJ7_checkLength_df160 2 none :: ([])
set_option maxHeartbeats 4000000 in
set_option maxRecDepth 100000 in
theorem c_J7_checkLength_df160 (l : Launch) (dC : Nat → ClassId) (dI : Nat → Nat → Nat) (ka ad : Nat → Nat) (ct : Nat → ClassId) (p0 : Int32) (p1 : Int32) (st st' : CS) (hf : fJ7_checkLength_df160 p0 p1 st = some st') (sz : Nat) : Met l yJ7_checkLength_df160 wq_J7_checkLength_df160 ({ frames := 0, cells := 0, slots := 0, locals := 0 }) (va_Pc [.int p0, .int p1] (PrC (dC, dI) ct ka ad st sz)) (va_Qv (fun (_ : Unit) => True) (fun _ => CB (dC, dI) ct ka ad st' (aC ad st sz)) (aC ad st sz)) 0 0 (aC ad st sz) := by
  refine Met.ofW (cc := cJ7_checkLength_df160) (maxL := 2) (ret := none) (by decide) rfl ?_
  intro p e s m args below meth c s₁ B hml hv
  obtain ⟨rfl, hsz, hw0, hK, hN, hZ, hC, hR, hL, hw1, hw2⟩ := hv
  have hx := B.exec
  have hb := B.bytes
  have hr := B.returns
  have hts := atoms_spec (ws := wq_J7_checkLength_df160) B.pre
  have hown : s.vm.findClass RJ7 = some m.cls := findClass_of_methodNamed B.named
  subst hsz
  have hp : Cp (dC, dI) ka ad ct (aC ad st s.heap.size) s.heap st s.heap [] := ⟨fun i a b => ⟨hw0 i a b, Or.inl ⟨i, a, b, rfl⟩⟩, va_S.rf, hw1, hw2⟩
  generalize hAe : aC ad st s.heap.size = A at hp hZ hC ⊢
  have hA : ∀ q : Nat, s.heap.size ≤ q → A q := fun q h => by rw [← hAe]; exact Or.inr h
  have hl := lv_entry ([.int p0, .int p1]) (n := 2) (Nat.le_of_ble_eq_true rfl)
  rw [lg_entry_eq]
  generalize (lg_sl ([.int p0, .int p1]) ++ List.replicate (2 - (lg_sl ([.int p0, .int p1])).length) Slot.unset).toArray = ls at hl ⊢
  have hl : lv_has ls 2 [(0, .int p0), (1, .int p1)] := hl
  unfold fJ7_checkLength_df160 at hf
  refine lv_iload_n hx hb dJ7_checkLength_df160_0 rfl (lv_at hl 1 rfl) ?_
  refine lv_iload_n hx hb dJ7_checkLength_df160_1 rfl (lv_at hl 0 rfl) ?_
  refine lv_icmp_ge (tgt := 37) hx hb dJ7_checkLength_df160_2 (by decide) (fun c_1 => ?_) (fun c_1 => ?_)
  · have hf := pif_t c_1 hf
    have e2 := Option.some.inj hf
    exact W.vret hx hb hr (fun t ht hW => ⟨⟨(), rfl, trivial, Cp.end e2 hp ht⟩, hp.2.1.F ht⟩) hp.2.1.2.2 dJ7_checkLength_df160_37
  · have hf := pif_f c_1 hf
    cases hf
noncomputable def fJ7_copyOfRangeByte_39247_30  (l4 : Option Nat) (gs : CS) : Option (Option Nat × CS) := some (l4, gs)
set_option maxHeartbeats 1000000 in
theorem mo_J7_copyOfRangeByte_39247_30   (l4 : Option Nat) (gs : CS) (r : Option Nat) (st' : CS) (hf : fJ7_copyOfRangeByte_39247_30  l4 gs = some (r, st')) : Mo gs st' := by
  unfold fJ7_copyOfRangeByte_39247_30 at hf
  have hm : Mo gs gs := Mo.rf
  obtain ⟨e1, e2⟩ := pr_some hf
  exact e2 ▸ hm
noncomputable def fJ7_copyOfRangeByte_39247_27  (l4 : Option Nat) (s0 : Int32) (s1 : Int32) (s2 : Option Nat) (s3 : Int32) (s4 : Option Nat) (gs : CS) : Option (Option Nat × CS) := ono s2 (fun a_1 => gd (qk gs a_1 = 22) (ono s4 (fun a_4 => gd (qk gs a_4 = 22) (gd (32 ≤ a_4 ∧ 32 ≤ a_1 ∧ ¬ s3 < 0 ∧ ¬ s1 < 0 ∧ ¬ s0 < 0 ∧ s3.toNatClampNeg + s0.toNatClampNeg ≤ ql gs a_4 ∧ s1.toNatClampNeg + s0.toNatClampNeg ≤ ql gs a_1 ∧ ∀ x, x < s0.toNatClampNeg → fits .byte (.int (qI gs a_4 (s3.toNatClampNeg + x))) = true) (nam (wF gs a_1 (va_cpy (qI gs a_4) (qI gs a_1) s3.toNatClampNeg s1.toNatClampNeg s0.toNatClampNeg)) (fun st_8 => fJ7_copyOfRangeByte_39247_30  l4 st_8))))))
set_option maxHeartbeats 1000000 in
theorem mo_J7_copyOfRangeByte_39247_27   (l4 : Option Nat) (s0 : Int32) (s1 : Int32) (s2 : Option Nat) (s3 : Int32) (s4 : Option Nat) (gs : CS) (r : Option Nat) (st' : CS) (hf : fJ7_copyOfRangeByte_39247_27  l4 s0 s1 s2 s3 s4 gs = some (r, st')) : Mo gs st' := by
  unfold fJ7_copyOfRangeByte_39247_27 at hf
  have hm : Mo gs gs := Mo.rf
  obtain ⟨a_1, ha_2, hf⟩ := ono_some hf
  obtain ⟨hk_3, hf⟩ := gd_some hf
  obtain ⟨a_4, ha_5, hf⟩ := ono_some hf
  obtain ⟨hk_6, hf⟩ := gd_some hf
  obtain ⟨g_7, hf⟩ := gd_some hf
  obtain ⟨st_8, est_8, hf⟩ := nam_some hf
  have hm := hm.wF est_8
  exact hm.tr (mo_J7_copyOfRangeByte_39247_30  l4 st_8 _ _ hf)
noncomputable def fJ7_copyOfRangeByte_39247_12  (l0 : Option Nat) (l1 : Int32) (l3 : Int32) (s0 : Option Nat) (gs : CS) : Option (Option Nat × CS) := ono l0 (fun a_9 => gd (qk gs a_9 = 22) (fJ7_copyOfRangeByte_39247_27  s0 (if l3 < ((nI (ql gs a_9)) - l1) then l3 else ((nI (ql gs a_9)) - l1)) 0 s0 l1 l0 gs))
set_option maxHeartbeats 1000000 in
theorem mo_J7_copyOfRangeByte_39247_12   (l0 : Option Nat) (l1 : Int32) (l3 : Int32) (s0 : Option Nat) (gs : CS) (r : Option Nat) (st' : CS) (hf : fJ7_copyOfRangeByte_39247_12  l0 l1 l3 s0 gs = some (r, st')) : Mo gs st' := by
  unfold fJ7_copyOfRangeByte_39247_12 at hf
  have hm : Mo gs gs := Mo.rf
  obtain ⟨a_9, ha_10, hf⟩ := ono_some hf
  obtain ⟨hk_11, hf⟩ := gd_some hf
  exact hm.tr (mo_J7_copyOfRangeByte_39247_27  s0 (if l3 < ((nI (ql gs a_9)) - l1) then l3 else ((nI (ql gs a_9)) - l1)) 0 s0 l1 l0 gs _ _ hf)
noncomputable def fJ7_copyOfRangeByte_39247_5  (l0 : Option Nat) (l1 : Int32) (l2 : Int32) (gs : CS) : Option (Option Nat × CS) := nam (l2 - l1) (fun v_12 => gd (¬ v_12 < 0 ∧ v_12.toNatClampNeg * 1 ≤ 536870912) (nam (wN gs 22 v_12.toNatClampNeg v_12.toNatClampNeg) (fun st_14 => fJ7_copyOfRangeByte_39247_12  l0 l1 v_12 (some (qn gs)) st_14)))
set_option maxHeartbeats 1000000 in
theorem mo_J7_copyOfRangeByte_39247_5   (l0 : Option Nat) (l1 : Int32) (l2 : Int32) (gs : CS) (r : Option Nat) (st' : CS) (hf : fJ7_copyOfRangeByte_39247_5  l0 l1 l2 gs = some (r, st')) : Mo gs st' := by
  unfold fJ7_copyOfRangeByte_39247_5 at hf
  have hm : Mo gs gs := Mo.rf
  obtain ⟨v_12, ev_12, hf⟩ := nam_some hf
  obtain ⟨g_13, hf⟩ := gd_some hf
  obtain ⟨st_14, est_14, hf⟩ := nam_some hf
  have hm := hm.wN est_14
  exact hm.tr (mo_J7_copyOfRangeByte_39247_12  l0 l1 v_12 (some (qn gs)) st_14 _ _ hf)
noncomputable def fJ7_copyOfRangeByte_39247 (p0 : Option Nat) (p1 : Int32) (p2 : Int32) (st : CS) : Option (Option Nat × CS) := bnv (fJ7_checkLength_df160 p1 p2 st) (fun st_15 => fJ7_copyOfRangeByte_39247_5  p0 p1 p2 st_15)
set_option maxHeartbeats 1000000 in
theorem mo_J7_copyOfRangeByte_39247 (p0 : Option Nat) (p1 : Int32) (p2 : Int32) (st : CS) (r : Option Nat) (st' : CS) (hf : fJ7_copyOfRangeByte_39247 p0 p1 p2 st = some (r, st')) : Mo st st' := by
  unfold fJ7_copyOfRangeByte_39247 at hf
  have hm : Mo st st := Mo.rf
  obtain ⟨st_15, hc_16, hf⟩ := bnv_some hf
  have hm := hm.ke (mo_J7_checkLength_df160 p1 p2 _ _ hc_16)
  exact hm.tr (mo_J7_copyOfRangeByte_39247_5  p0 p1 p2 st_15 _ _ hf)
def wq_J7_copyOfRangeByte_39247 : List Cond := .code yJ7_copyOfRangeByte_39247 cJ7_copyOfRangeByte_39247 5 (some (.array .byte)) :: ([.methodLink RJ7 304 Lib.Math.min.name, .static Lib.Math.min.name, .initialized "java/lang/Math", .code Lib.Math.min.name Lib.Math.min.code 2 (some .int), .methodLink RJ7 150 arraycopyName, .native arraycopyName, .static arraycopyName, .initialized "java/lang/System", .arrayClass .byte, .methodLink RJ7 343 yJ7_checkLength_df160, .static yJ7_checkLength_df160, .initialized RJ7, .code yJ7_checkLength_df160 cJ7_checkLength_df160 2 none])
set_option maxRecDepth 20000 in
theorem gq_J7_copyOfRangeByte_39247_J7_checkLength_df160_343 : GoodIn wq_J7_copyOfRangeByte_39247 (va_wsS RJ7 343 yJ7_checkLength_df160 wq_J7_checkLength_df160) := goodIn_app (goodIn_r _ [10, 11, 12] rfl rfl) (goodIn_r _ [13] rfl rfl)
set_option maxHeartbeats 4000000 in
set_option maxRecDepth 100000 in
theorem c_J7_copyOfRangeByte_39247 (l : Launch) (dC : Nat → ClassId) (dI : Nat → Nat → Nat) (ka ad : Nat → Nat) (ct : Nat → ClassId) (p0 : Option Nat) (p1 : Int32) (p2 : Int32) (st st' : CS) (r : Option Nat) (hf : fJ7_copyOfRangeByte_39247 p0 p1 p2 st = some (r, st')) (sz : Nat) : Met l yJ7_copyOfRangeByte_39247 wq_J7_copyOfRangeByte_39247 ({ frames := 1, cells := (qn st' - qn st), slots := (qs st' - qs st), locals := 44 }) (va_Pc [va_rf (Option.map ad p0), .int p1, .int p2] (PrC (dC, dI) ct ka ad st sz)) (va_Qq (fun r' (_ : Unit) => r' = Option.map ad r) (fun _ => CB (dC, dI) ct ka ad st' (aC ad st sz)) (aC ad st sz)) (qn st' - qn st) (qs st' - qs st) (aC ad st sz) := by
  refine Met.ofW (cc := cJ7_copyOfRangeByte_39247) (maxL := 5) (ret := (some (.array .byte))) (by decide) rfl ?_
  intro p e s m args below meth c s₁ B hml hv
  obtain ⟨rfl, hsz, hw0, hK, hN, hZ, hC, hR, hL, hw1, hw2⟩ := hv
  have hx := B.exec
  have hb := B.bytes
  have hr := B.returns
  have hts := atoms_spec (ws := wq_J7_copyOfRangeByte_39247) B.pre
  have hown : s.vm.findClass RJ7 = some m.cls := findClass_of_methodNamed B.named
  subst hsz
  have hp : Cp (dC, dI) ka ad ct (aC ad st s.heap.size) s.heap st s.heap [] := ⟨fun i a b => ⟨hw0 i a b, Or.inl ⟨i, a, b, rfl⟩⟩, va_S.rf, hw1, hw2⟩
  generalize hAe : aC ad st s.heap.size = A at hp hZ hC ⊢
  have hA : ∀ q : Nat, s.heap.size ≤ q → A q := fun q h => by rw [← hAe]; exact Or.inr h
  have hl := lv_entry ([va_rf (Option.map ad p0), .int p1, .int p2]) (n := 5) (by simp [lg_sl, rf_cat, vc_i, vc_l, vc_r, vc_n])
  rw [lg_entry_eq]
  generalize (lg_sl ([va_rf (Option.map ad p0), .int p1, .int p2]) ++ List.replicate (5 - (lg_sl ([va_rf (Option.map ad p0), .int p1, .int p2])).length) Slot.unset).toArray = ls at hl ⊢
  have hl : lv_has ls 5 [(0, va_rf (Option.map ad p0)), (1, .int p1), (2, .int p2)] := by simpa [lv_args, rf_cat, vc_i, vc_l, vc_r, vc_n] using hl
  have hm : Mo st st := Mo.rf
  refine W.widen (k := qn st - qn st) (n := qs st - qs st) (Nat.zero_le _) (Nat.zero_le _) ?_
  refine W_blkA (fun (u : (Option Nat) × CS) H locs ls => match u with | (l4, gs) => fJ7_copyOfRangeByte_39247_30  l4 gs = some (r, st') ∧ Cp (dC, dI) ka ad ct A s.heap gs H locs ∧ lv_has ls 5 [(4, va_rf (Option.map ad l4))] ∧ Mo st gs) (fun (u : (Option Nat) × CS) ls => match u with | (l4, gs) => F0 m 30 ls []) (fun (u : (Option Nat) × CS) => match u with | (l4, gs) => qn gs - qn st) (fun (u : (Option Nat) × CS) => match u with | (l4, gs) => qs gs - qs st) ?_ (fun J30 => ?_)
  · intro u H locs ls hu
    obtain ⟨l4, gs⟩ := u
    obtain ⟨hf, hp, hl, hm⟩ := hu
    show W p l e _ s m _ below meth c _ _ (qn gs - qn st) (qs gs - qs st) _ (F0 m 30 ls [])
    unfold fJ7_copyOfRangeByte_39247_30 at hf
    refine o_aload hx hb dJ7_copyOfRangeByte_39247_30 (lv_at hl 0 rfl) ?_
    obtain ⟨e1, e2⟩ := pr_some hf
    refine W.widen (k := qn st' - qn st) (n := qs st' - qs st) (by rw [e2]; exact Nat.le_refl _) (by rw [e2]; exact Nat.le_refl _) ?_
    exact W.aret (v := va_rf (Option.map ad l4)) hx hb hr (Or.inr ⟨_, rfl⟩) (rf_or _) (fun t ht hW => ⟨⟨Option.map ad l4, (), rfl, by rw [e1], Cp.end e2 hp ht⟩, hp.2.1.F ht⟩) hp.2.1.2.2 dJ7_copyOfRangeByte_39247_32
  refine W_blkA (fun (u : (Option Nat) × Int32 × Int32 × (Option Nat) × Int32 × (Option Nat) × CS) H locs ls => match u with | (l4, s0, s1, s2, s3, s4, gs) => fJ7_copyOfRangeByte_39247_27  l4 s0 s1 s2 s3 s4 gs = some (r, st') ∧ Cp (dC, dI) ka ad ct A s.heap gs H locs ∧ lv_has ls 5 [(4, va_rf (Option.map ad l4))] ∧ Mo st gs) (fun (u : (Option Nat) × Int32 × Int32 × (Option Nat) × Int32 × (Option Nat) × CS) ls => match u with | (l4, s0, s1, s2, s3, s4, gs) => F0 m 27 ls [.int s0, .int s1, va_rf (Option.map ad s2), .int s3, va_rf (Option.map ad s4)]) (fun (u : (Option Nat) × Int32 × Int32 × (Option Nat) × Int32 × (Option Nat) × CS) => match u with | (l4, s0, s1, s2, s3, s4, gs) => qn gs - qn st) (fun (u : (Option Nat) × Int32 × Int32 × (Option Nat) × Int32 × (Option Nat) × CS) => match u with | (l4, s0, s1, s2, s3, s4, gs) => qs gs - qs st) ?_ (fun J27 => ?_)
  · intro u H locs ls hu
    obtain ⟨l4, s0, s1, s2, s3, s4, gs⟩ := u
    obtain ⟨hf, hp, hl, hm⟩ := hu
    show W p l e _ s m _ below meth c _ _ (qn gs - qn st) (qs gs - qs st) _ (F0 m 27 ls [.int s0, .int s1, va_rf (Option.map ad s2), .int s3, va_rf (Option.map ad s4)])
    unfold fJ7_copyOfRangeByte_39247_27 at hf
    obtain ⟨a_1, ha_2, hf⟩ := ono_some hf
    refine o_at2 ha_2 ?_
    obtain ⟨hk_3, hf⟩ := gd_some hf
    obtain ⟨a_4, ha_5, hf⟩ := ono_some hf
    refine o_at4 ha_5 ?_
    obtain ⟨hk_6, hf⟩ := gd_some hf
    obtain ⟨g_7, hf⟩ := gd_some hf
    refine q_copy hx hb (by rw [hml]; exact hl.1.symm) hown (hts (.methodLink RJ7 150 arraycopyName) (by decide +kernel)) (hts (.native arraycopyName) (by decide +kernel)) (hts (.static arraycopyName) (by decide +kernel)) (hts (.initialized "java/lang/System") (by decide +kernel)) hK hp g_7.1 g_7.2.1 hk_6 hk_3 g_7.2.2.1 g_7.2.2.2.1 g_7.2.2.2.2.1 g_7.2.2.2.2.2.1 g_7.2.2.2.2.2.2.1 g_7.2.2.2.2.2.2.2 (Nat.le_of_ble_eq_true rfl) (Nat.le_of_ble_eq_true rfl) dJ7_copyOfRangeByte_39247_27 (fun H locs hp => ?_)
    obtain ⟨st_8, est_8, hf⟩ := nam_some hf
    rw [← est_8] at hp
    have hm := hm.wF est_8
    refine W.widen (k := qn st_8 - qn st) (n := qs st_8 - qs st) (by rw [est_8]; exact Nat.le_refl _) (by rw [est_8]; exact Nat.le_refl _) ?_
    have hk_3 : qk st_8 a_1 = 22 := by rw [est_8]; exact hk_3
    have hk_6 : qk st_8 a_4 = 22 := by rw [est_8]; exact hk_6
    exact J30 (l4, st_8) _ _ _ ⟨hf, hp, (lv_sub hl [0] rfl), hm⟩
  refine W_blkA (fun (u : (Option Nat) × Int32 × Int32 × (Option Nat) × CS) H locs ls => match u with | (l0, l1, l3, s0, gs) => fJ7_copyOfRangeByte_39247_12  l0 l1 l3 s0 gs = some (r, st') ∧ Cp (dC, dI) ka ad ct A s.heap gs H locs ∧ lv_has ls 5 [(0, va_rf (Option.map ad l0)), (1, .int l1), (3, .int l3)] ∧ Mo st gs) (fun (u : (Option Nat) × Int32 × Int32 × (Option Nat) × CS) ls => match u with | (l0, l1, l3, s0, gs) => F0 m 12 ls [va_rf (Option.map ad s0)]) (fun (u : (Option Nat) × Int32 × Int32 × (Option Nat) × CS) => match u with | (l0, l1, l3, s0, gs) => qn gs - qn st) (fun (u : (Option Nat) × Int32 × Int32 × (Option Nat) × CS) => match u with | (l0, l1, l3, s0, gs) => qs gs - qs st) ?_ (fun J12 => ?_)
  · intro u H locs ls hu
    obtain ⟨l0, l1, l3, s0, gs⟩ := u
    obtain ⟨hf, hp, hl, hm⟩ := hu
    show W p l e _ s m _ below meth c _ _ (qn gs - qn st) (qs gs - qs st) _ (F0 m 12 ls [va_rf (Option.map ad s0)])
    unfold fJ7_copyOfRangeByte_39247_12 at hf
    refine o_astore (i := 4) (lv' := [(4, va_rf (Option.map ad s0)), (0, va_rf (Option.map ad l0)), (1, .int l1), (3, .int l3)]) hx hb dJ7_copyOfRangeByte_39247_12 hl (by decide) rfl (fun ls hl => ?_)
    refine o_aload_n hx hb dJ7_copyOfRangeByte_39247_14 rfl (lv_at hl 1 rfl) ?_
    refine lv_iload_n hx hb dJ7_copyOfRangeByte_39247_15 rfl (lv_at hl 2 rfl) ?_
    refine o_aload hx hb dJ7_copyOfRangeByte_39247_16 (lv_at hl 0 rfl) ?_
    refine lv_iconst (v := 0) hx hb dJ7_copyOfRangeByte_39247_18 (by decide) ?_
    refine o_aload_n hx hb dJ7_copyOfRangeByte_39247_19 rfl (lv_at hl 1 rfl) ?_
    obtain ⟨a_9, ha_10, hf⟩ := ono_some hf
    refine o_at ha_10 ?_
    obtain ⟨hk_11, hf⟩ := gd_some hf
    refine q_lenb hx hb hK hp hC hk_11 dJ7_copyOfRangeByte_39247_20 ?_
    refine lv_iload_n hx hb dJ7_copyOfRangeByte_39247_21 rfl (lv_at hl 2 rfl) ?_
    refine lv_isub hx hb dJ7_copyOfRangeByte_39247_22 ?_
    refine lv_iload_n hx hb dJ7_copyOfRangeByte_39247_23 rfl (lv_at hl 3 rfl) ?_
    have hmr := mo_J7_copyOfRangeByte_39247_27  _ _ _ _ _ _ _ _ _ hf
    refine va_mmin hx hb (by rw [hml]; exact hl.1.symm) hown (hts (.methodLink RJ7 304 Lib.Math.min.name) (by decide +kernel)) (hts (.static Lib.Math.min.name) (by decide +kernel)) (hts (.initialized "java/lang/Math") (by decide +kernel)) (hts (.code Lib.Math.min.name Lib.Math.min.code 2 (some .int)) (by decide +kernel)) (Nat.le_of_ble_eq_true rfl) (Nat.le_trans (m := 40) (by simp [rf_cat, vc_i, vc_l, vc_r, vc_n, nativeFrameWords]) (Nat.le_of_ble_eq_true rfl)) (by show qn _ - qn st ≤ qn st' - qn st; have := hmr.1; have := hm.1; omega) (by show qs _ - qs st ≤ qs st' - qs st; have := hmr.2.1; have := hm.2.1; omega) dJ7_copyOfRangeByte_39247_24 ?_
    exact J27 (s0, (if l3 < ((nI (ql gs a_9)) - l1) then l3 else ((nI (ql gs a_9)) - l1)), 0, s0, l1, l0, gs) _ _ _ ⟨hf, hp, (lv_sub hl [0] rfl), hm⟩
  refine W_blkA (fun (u : (Option Nat) × Int32 × Int32 × CS) H locs ls => match u with | (l0, l1, l2, gs) => fJ7_copyOfRangeByte_39247_5  l0 l1 l2 gs = some (r, st') ∧ Cp (dC, dI) ka ad ct A s.heap gs H locs ∧ lv_has ls 5 [(0, va_rf (Option.map ad l0)), (1, .int l1), (2, .int l2)] ∧ Mo st gs) (fun (u : (Option Nat) × Int32 × Int32 × CS) ls => match u with | (l0, l1, l2, gs) => F0 m 5 ls []) (fun (u : (Option Nat) × Int32 × Int32 × CS) => match u with | (l0, l1, l2, gs) => qn gs - qn st) (fun (u : (Option Nat) × Int32 × Int32 × CS) => match u with | (l0, l1, l2, gs) => qs gs - qs st) ?_ (fun J5 => ?_)
  · intro u H locs ls hu
    obtain ⟨l0, l1, l2, gs⟩ := u
    obtain ⟨hf, hp, hl, hm⟩ := hu
    show W p l e _ s m _ below meth c _ _ (qn gs - qn st) (qs gs - qs st) _ (F0 m 5 ls [])
    unfold fJ7_copyOfRangeByte_39247_5 at hf
    refine lv_iload_n hx hb dJ7_copyOfRangeByte_39247_5 rfl (lv_at hl 2 rfl) ?_
    refine lv_iload_n hx hb dJ7_copyOfRangeByte_39247_6 rfl (lv_at hl 1 rfl) ?_
    refine lv_isub hx hb dJ7_copyOfRangeByte_39247_7 ?_
    obtain ⟨v_12, ev_12, hf⟩ := nam_some hf
    refine W_toi (y := v_12) ev_12.symm ?_
    refine lv_istore_n (i := 3) (lv' := [(3, .int v_12), (0, va_rf (Option.map ad l0)), (1, .int l1), (2, .int l2)]) hx hb dJ7_copyOfRangeByte_39247_8 rfl hl (by decide) rfl (fun ls hl => ?_)
    refine lv_iload_n hx hb dJ7_copyOfRangeByte_39247_9 rfl (lv_at hl 0 rfl) ?_
    obtain ⟨g_13, hf⟩ := gd_some hf
    obtain ⟨st_14, est_14, hf⟩ := nam_some hf
    have hmr := mo_J7_copyOfRangeByte_39247_12  _ _ _ _ _ _ _ hf
    refine q_newa (kd := 22) (t0 := 1) (ty := .byte) (atype := .byte) hx hb (hts (.arrayClass .byte) (by decide +kernel)) rfl hK hp hA (by decide) (by decide) rfl (fun _ => rfl) rfl g_13.1 g_13.2 (by show qn gs - qn st + 1 ≤ qn st' - qn st; have := hmr.1; have := hm.1; have := (wN_n est_14).1; omega) (by show qs gs - qs st + v_12.toNatClampNeg ≤ qs st' - qs st; have := hmr.2.1; have := hm.2.1; have := (wN_n est_14).2; omega) dJ7_copyOfRangeByte_39247_10 (fun H hp => ?_)
    rw [← est_14] at hp
    refine W.widen (k := qn st_14 - qn st) (n := qs st_14 - qs st) (by have := hm.1; have := (wN_n est_14).1; omega) (by have := hm.2.1; have := (wN_n est_14).2; omega) ?_
    have hm := hm.wN est_14
    exact J12 (l0, l1, v_12, (some (qn gs)), st_14) _ _ _ ⟨hf, hp, (lv_sub hl [1, 2, 0] rfl), hm⟩
  unfold fJ7_copyOfRangeByte_39247 at hf
  refine lv_iload_n hx hb dJ7_copyOfRangeByte_39247_0 rfl (lv_at hl 1 rfl) ?_
  refine lv_iload_n hx hb dJ7_copyOfRangeByte_39247_1 rfl (lv_at hl 2 rfl) ?_
  obtain ⟨st_15, hc_16, hf⟩ := bnv_some hf
  have hmc := (mo_J7_checkLength_df160 p1 p2 _ _ hc_16).mo
  have hmr := mo_J7_copyOfRangeByte_39247_5  _ _ _ _ _ _ hf
  refine q_cv hp hA (va_runS (As := [.int p1, .int p2]) (rest := []) ⟨hx, hb, hml, hown, hts⟩ (c_J7_checkLength_df160 l dC dI ka ad ct p1 p2 _ _ hc_16 _) (va_cwS 2 hts gq_J7_copyOfRangeByte_39247_J7_checkLength_df160_343 rfl rfl rfl (by decide +kernel) ⟨Nat.le_of_ble_eq_true rfl, Nat.le_of_ble_eq_true rfl⟩) ⟨PrC.blind _, q_pre hp hK hN hZ hC hR hL hA⟩ rfl rfl hl.1 rfl (lv_room (Nat.le_of_ble_eq_true rfl)) dJ7_copyOfRangeByte_39247_2 ⟨by show qn st - qn st + 0 ≤ qn st' - qn st; have := hmr.1; have := hm.1; have := hmc.1; omega, by show qs st - qs st + 0 ≤ qs st' - qs st; have := hmr.2.1; have := hm.2.1; have := hmc.2.1; omega⟩) (fun H locs hp => ?_)
  refine W.widen (k := qn st_15 - qn st) (n := qs st_15 - qs st) (by have := hmc.1; omega) (by have := hmc.2.1; omega) ?_
  have hm := hm.tr hmc
  exact J5 (p0, p1, p2, st_15) _ _ _ ⟨hf, hp, (lv_sub hl [0, 1, 2] rfl), hm⟩
noncomputable def fJ7_copyOfRange_39247_21  (s0 : Option Nat) (gs : CS) : Option (Option Nat × CS) := ono s0 (fun a_1 => gd (qk gs a_1 = 22) (gd (32 ≤ a_1) (some ((some a_1), gs))))
set_option maxHeartbeats 1000000 in
theorem mo_J7_copyOfRange_39247_21   (s0 : Option Nat) (gs : CS) (r : Option Nat) (st' : CS) (hf : fJ7_copyOfRange_39247_21  s0 gs = some (r, st')) : Mo gs st' := by
  unfold fJ7_copyOfRange_39247_21 at hf
  have hm : Mo gs gs := Mo.rf
  obtain ⟨a_1, ha_2, hf⟩ := ono_some hf
  obtain ⟨hk_3, hf⟩ := gd_some hf
  obtain ⟨g_4, hf⟩ := gd_some hf
  obtain ⟨e1, e2⟩ := pr_some hf
  exact e2 ▸ hm
noncomputable def fJ7_copyOfRange_39247_16  (s0 : Option Nat) (gs : CS) : Option (Option Nat × CS) := some (s0, gs)
set_option maxHeartbeats 1000000 in
theorem mo_J7_copyOfRange_39247_16   (s0 : Option Nat) (gs : CS) (r : Option Nat) (st' : CS) (hf : fJ7_copyOfRange_39247_16  s0 gs = some (r, st')) : Mo gs st' := by
  unfold fJ7_copyOfRange_39247_16 at hf
  have hm : Mo gs gs := Mo.rf
  obtain ⟨e1, e2⟩ := pr_some hf
  exact e2 ▸ hm
noncomputable def fJ7_copyOfRange_39247_10  (l0 : Option Nat) (l1 : Int32) (l2 : Int32) (gs : CS) : Option (Option Nat × CS) := bnd (fJ7_copyOfRangeByte_39247 l0 l1 l2 gs) (fun r_7 st_5 => fJ7_copyOfRange_39247_16  r_7 st_5)
set_option maxHeartbeats 1000000 in
theorem mo_J7_copyOfRange_39247_10   (l0 : Option Nat) (l1 : Int32) (l2 : Int32) (gs : CS) (r : Option Nat) (st' : CS) (hf : fJ7_copyOfRange_39247_10  l0 l1 l2 gs = some (r, st')) : Mo gs st' := by
  unfold fJ7_copyOfRange_39247_10 at hf
  have hm : Mo gs gs := Mo.rf
  obtain ⟨r_7, st_5, hc_6, hf⟩ := bnd_some hf
  have hm := hm.tr (mo_J7_copyOfRangeByte_39247 l0 l1 l2 _ _ _ hc_6)
  exact hm.tr (mo_J7_copyOfRange_39247_16  r_7 st_5 _ _ hf)
noncomputable def fJ7_copyOfRange_39247 (p0 : Option Nat) (p1 : Int32) (p2 : Int32) (st : CS) : Option (Option Nat × CS) := pif (p1 = 0) (ono p0 (fun a_9 => gd (qk st a_9 = 22) (pif (p2 = (nI (ql st a_9))) (gd (32 ≤ a_9 ∧ ∀ x, x < ql st a_9 → fits .byte (.int (qI st a_9 x)) = true) (nam (wC st a_9) (fun st_14 => fJ7_copyOfRange_39247_21  (some (qn st)) st_14))) (fJ7_copyOfRange_39247_10  p0 p1 p2 st)))) (fJ7_copyOfRange_39247_10  p0 p1 p2 st)
set_option maxHeartbeats 1000000 in
theorem mo_J7_copyOfRange_39247 (p0 : Option Nat) (p1 : Int32) (p2 : Int32) (st : CS) (r : Option Nat) (st' : CS) (hf : fJ7_copyOfRange_39247 p0 p1 p2 st = some (r, st')) : Mo st st' := by
  unfold fJ7_copyOfRange_39247 at hf
  have hm : Mo st st := Mo.rf
  rcases pif_or hf with ⟨c_8, hf⟩ | ⟨c_8, hf⟩
  · obtain ⟨a_9, ha_10, hf⟩ := ono_some hf
    obtain ⟨hk_11, hf⟩ := gd_some hf
    rcases pif_or hf with ⟨c_12, hf⟩ | ⟨c_12, hf⟩
    · obtain ⟨g_13, hf⟩ := gd_some hf
      obtain ⟨st_14, est_14, hf⟩ := nam_some hf
      have hm := hm.wC est_14
      exact hm.tr (mo_J7_copyOfRange_39247_21  (some (qn st)) st_14 _ _ hf)
    · exact hm.tr (mo_J7_copyOfRange_39247_10  p0 p1 p2 st _ _ hf)
  · exact hm.tr (mo_J7_copyOfRange_39247_10  p0 p1 p2 st _ _ hf)
def wq_J7_copyOfRange_39247 : List Cond := .code yJ7_copyOfRange_39247 cJ7_copyOfRange_39247 3 (some (.array .byte)) :: ([.classLink RJ7 311 "[B", .methodLink RJ7 339 yJ7_copyOfRangeByte_39247, .static yJ7_copyOfRangeByte_39247, .initialized RJ7, .methodLink RJ7 310 ⟨"[B", "clone", "()Ljava/lang/Object;"⟩, .sameMethod "[B" "java/lang/Object" "clone" "()Ljava/lang/Object;", .native ⟨"java/lang/Object", "clone", "()Ljava/lang/Object;"⟩, .instanceMethod ⟨"java/lang/Object", "clone", "()Ljava/lang/Object;"⟩, .selects "[B" ⟨"[B", "clone", "()Ljava/lang/Object;"⟩ ⟨"java/lang/Object", "clone", "()Ljava/lang/Object;"⟩, .code yJ7_copyOfRangeByte_39247 cJ7_copyOfRangeByte_39247 5 (some (.array .byte)), .methodLink RJ7 304 Lib.Math.min.name, .static Lib.Math.min.name, .initialized "java/lang/Math", .code Lib.Math.min.name Lib.Math.min.code 2 (some .int), .methodLink RJ7 150 arraycopyName, .native arraycopyName, .static arraycopyName, .initialized "java/lang/System", .arrayClass .byte, .methodLink RJ7 343 yJ7_checkLength_df160, .static yJ7_checkLength_df160, .code yJ7_checkLength_df160 cJ7_checkLength_df160 2 none])
set_option maxRecDepth 20000 in
theorem gq_J7_copyOfRange_39247_J7_copyOfRangeByte_39247_339 : GoodIn wq_J7_copyOfRange_39247 (va_wsS RJ7 339 yJ7_copyOfRangeByte_39247 wq_J7_copyOfRangeByte_39247) := goodIn_app (goodIn_r _ [2, 3, 4] rfl rfl) (goodIn_r _ [10, 11, 12, 13, 14, 15, 16, 17, 18, 19, 20, 21, 4, 22] rfl rfl)
set_option maxHeartbeats 4000000 in
set_option maxRecDepth 100000 in
theorem c_J7_copyOfRange_39247 (l : Launch) (dC : Nat → ClassId) (dI : Nat → Nat → Nat) (ka ad : Nat → Nat) (ct : Nat → ClassId) (p0 : Option Nat) (p1 : Int32) (p2 : Int32) (st st' : CS) (r : Option Nat) (hf : fJ7_copyOfRange_39247 p0 p1 p2 st = some (r, st')) (sz : Nat) : Met l yJ7_copyOfRange_39247 wq_J7_copyOfRange_39247 ({ frames := 2, cells := (qn st' - qn st), slots := (qs st' - qs st), locals := 72 }) (va_Pc [va_rf (Option.map ad p0), .int p1, .int p2] (PrC (dC, dI) ct ka ad st sz)) (va_Qq (fun r' (_ : Unit) => r' = Option.map ad r) (fun _ => CB (dC, dI) ct ka ad st' (aC ad st sz)) (aC ad st sz)) (qn st' - qn st) (qs st' - qs st) (aC ad st sz) := by
  refine Met.ofW (cc := cJ7_copyOfRange_39247) (maxL := 3) (ret := (some (.array .byte))) (by decide) rfl ?_
  intro p e s m args below meth c s₁ B hml hv
  obtain ⟨rfl, hsz, hw0, hK, hN, hZ, hC, hR, hL, hw1, hw2⟩ := hv
  have hx := B.exec
  have hb := B.bytes
  have hr := B.returns
  have hts := atoms_spec (ws := wq_J7_copyOfRange_39247) B.pre
  have hown : s.vm.findClass RJ7 = some m.cls := findClass_of_methodNamed B.named
  subst hsz
  have hp : Cp (dC, dI) ka ad ct (aC ad st s.heap.size) s.heap st s.heap [] := ⟨fun i a b => ⟨hw0 i a b, Or.inl ⟨i, a, b, rfl⟩⟩, va_S.rf, hw1, hw2⟩
  generalize hAe : aC ad st s.heap.size = A at hp hZ hC ⊢
  have hA : ∀ q : Nat, s.heap.size ≤ q → A q := fun q h => by rw [← hAe]; exact Or.inr h
  have hl := lv_entry ([va_rf (Option.map ad p0), .int p1, .int p2]) (n := 3) (by simp [lg_sl, rf_cat, vc_i, vc_l, vc_r, vc_n])
  rw [lg_entry_eq]
  generalize (lg_sl ([va_rf (Option.map ad p0), .int p1, .int p2]) ++ List.replicate (3 - (lg_sl ([va_rf (Option.map ad p0), .int p1, .int p2])).length) Slot.unset).toArray = ls at hl ⊢
  have hl : lv_has ls 3 [(0, va_rf (Option.map ad p0)), (1, .int p1), (2, .int p2)] := by simpa [lv_args, rf_cat, vc_i, vc_l, vc_r, vc_n] using hl
  have hm : Mo st st := Mo.rf
  refine W.widen (k := qn st - qn st) (n := qs st - qs st) (Nat.zero_le _) (Nat.zero_le _) ?_
  refine W_blkA (fun (u : (Option Nat) × CS) H locs ls => match u with | (s0, gs) => fJ7_copyOfRange_39247_21  s0 gs = some (r, st') ∧ Cp (dC, dI) ka ad ct A s.heap gs H locs ∧ lv_has ls 3 [] ∧ Mo st gs) (fun (u : (Option Nat) × CS) ls => match u with | (s0, gs) => F0 m 21 ls [va_rf (Option.map ad s0)]) (fun (u : (Option Nat) × CS) => match u with | (s0, gs) => qn gs - qn st) (fun (u : (Option Nat) × CS) => match u with | (s0, gs) => qs gs - qs st) ?_ (fun J21 => ?_)
  · intro u H locs ls hu
    obtain ⟨s0, gs⟩ := u
    obtain ⟨hf, hp, hl, hm⟩ := hu
    show W p l e _ s m _ below meth c _ _ (qn gs - qn st) (qs gs - qs st) _ (F0 m 21 ls [va_rf (Option.map ad s0)])
    unfold fJ7_copyOfRange_39247_21 at hf
    obtain ⟨a_1, ha_2, hf⟩ := ono_some hf
    refine o_at ha_2 ?_
    obtain ⟨hk_3, hf⟩ := gd_some hf
    obtain ⟨g_4, hf⟩ := gd_some hf
    refine q_castb hx hb hown (hts (.classLink RJ7 311 "[B") (by decide +kernel)) hK hp g_4 hk_3 dJ7_copyOfRange_39247_21 ?_
    obtain ⟨e1, e2⟩ := pr_some hf
    refine W.widen (k := qn st' - qn st) (n := qs st' - qs st) (by rw [e2]; exact Nat.le_refl _) (by rw [e2]; exact Nat.le_refl _) ?_
    exact W.aret (v := va_rf (Option.map ad (some a_1))) hx hb hr (Or.inr ⟨_, rfl⟩) (rf_or _) (fun t ht hW => ⟨⟨Option.map ad (some a_1), (), rfl, by rw [e1], Cp.end e2 hp ht⟩, hp.2.1.F ht⟩) hp.2.1.2.2 dJ7_copyOfRange_39247_24
  refine W_blkA (fun (u : (Option Nat) × CS) H locs ls => match u with | (s0, gs) => fJ7_copyOfRange_39247_16  s0 gs = some (r, st') ∧ Cp (dC, dI) ka ad ct A s.heap gs H locs ∧ lv_has ls 3 [] ∧ Mo st gs) (fun (u : (Option Nat) × CS) ls => match u with | (s0, gs) => F0 m 16 ls [va_rf (Option.map ad s0)]) (fun (u : (Option Nat) × CS) => match u with | (s0, gs) => qn gs - qn st) (fun (u : (Option Nat) × CS) => match u with | (s0, gs) => qs gs - qs st) ?_ (fun J16 => ?_)
  · intro u H locs ls hu
    obtain ⟨s0, gs⟩ := u
    obtain ⟨hf, hp, hl, hm⟩ := hu
    show W p l e _ s m _ below meth c _ _ (qn gs - qn st) (qs gs - qs st) _ (F0 m 16 ls [va_rf (Option.map ad s0)])
    unfold fJ7_copyOfRange_39247_16 at hf
    obtain ⟨e1, e2⟩ := pr_some hf
    refine W.widen (k := qn st' - qn st) (n := qs st' - qs st) (by rw [e2]; exact Nat.le_refl _) (by rw [e2]; exact Nat.le_refl _) ?_
    exact W.aret (v := va_rf (Option.map ad s0)) hx hb hr (Or.inr ⟨_, rfl⟩) (rf_or _) (fun t ht hW => ⟨⟨Option.map ad s0, (), rfl, by rw [e1], Cp.end e2 hp ht⟩, hp.2.1.F ht⟩) hp.2.1.2.2 dJ7_copyOfRange_39247_16
  refine W_blkA (fun (u : (Option Nat) × Int32 × Int32 × CS) H locs ls => match u with | (l0, l1, l2, gs) => fJ7_copyOfRange_39247_10  l0 l1 l2 gs = some (r, st') ∧ Cp (dC, dI) ka ad ct A s.heap gs H locs ∧ lv_has ls 3 [(0, va_rf (Option.map ad l0)), (1, .int l1), (2, .int l2)] ∧ Mo st gs) (fun (u : (Option Nat) × Int32 × Int32 × CS) ls => match u with | (l0, l1, l2, gs) => F0 m 10 ls []) (fun (u : (Option Nat) × Int32 × Int32 × CS) => match u with | (l0, l1, l2, gs) => qn gs - qn st) (fun (u : (Option Nat) × Int32 × Int32 × CS) => match u with | (l0, l1, l2, gs) => qs gs - qs st) ?_ (fun J10 => ?_)
  · intro u H locs ls hu
    obtain ⟨l0, l1, l2, gs⟩ := u
    obtain ⟨hf, hp, hl, hm⟩ := hu
    show W p l e _ s m _ below meth c _ _ (qn gs - qn st) (qs gs - qs st) _ (F0 m 10 ls [])
    unfold fJ7_copyOfRange_39247_10 at hf
    refine o_aload_n hx hb dJ7_copyOfRange_39247_10 rfl (lv_at hl 0 rfl) ?_
    refine lv_iload_n hx hb dJ7_copyOfRange_39247_11 rfl (lv_at hl 1 rfl) ?_
    refine lv_iload_n hx hb dJ7_copyOfRange_39247_12 rfl (lv_at hl 2 rfl) ?_
    obtain ⟨r_7, st_5, hc_6, hf⟩ := bnd_some hf
    have hmc := (mo_J7_copyOfRangeByte_39247 l0 l1 l2 _ _ _ hc_6)
    have hmr := mo_J7_copyOfRange_39247_16  _ _ _ _ hf
    refine q_cq hp hA (va_runS (As := [va_rf (Option.map ad l0), .int l1, .int l2]) (rest := []) ⟨hx, hb, hml, hown, hts⟩ (c_J7_copyOfRangeByte_39247 l dC dI ka ad ct l0 l1 l2 _ _ _ hc_6 _) (va_cwS 3 hts gq_J7_copyOfRange_39247_J7_copyOfRangeByte_39247_339 rfl rfl rfl (by decide +kernel) ⟨Nat.le_of_ble_eq_true rfl, Nat.le_of_ble_eq_true rfl⟩) ⟨PrC.blind _, q_pre hp hK hN hZ hC hR hL hA⟩ rfl rfl hl.1 rfl (lv_room (Nat.le_of_ble_eq_true rfl)) dJ7_copyOfRange_39247_13 ⟨by show qn gs - qn st + (qn st_5 - qn gs) ≤ qn st' - qn st; have := hmr.1; have := hm.1; have := hmc.1; omega, by show qs gs - qs st + (qs st_5 - qs gs) ≤ qs st' - qs st; have := hmr.2.1; have := hm.2.1; have := hmc.2.1; omega⟩) (fun H locs hp => ?_)
    refine W.widen (k := qn st_5 - qn st) (n := qs st_5 - qs st) (by have := hm.1; have := hmc.1; omega) (by have := hm.2.1; have := hmc.2.1; omega) ?_
    have hm := hm.tr hmc
    exact J16 (r_7, st_5) _ _ _ ⟨hf, hp, (lv_sub hl [] rfl), hm⟩
  unfold fJ7_copyOfRange_39247 at hf
  refine lv_iload_n hx hb dJ7_copyOfRange_39247_0 rfl (lv_at hl 1 rfl) ?_
  refine lv_if_ne (tgt := 10) hx hb dJ7_copyOfRange_39247_1 (by decide) (fun c_8 => ?_) (fun c_8 => ?_)
  · have hf := pif_f c_8 hf
    exact J10 (p0, p1, p2, st) _ _ _ ⟨hf, hp, (lv_sub hl [0, 1, 2] rfl), hm⟩
  · have hf := pif_t c_8 hf
    refine lv_iload_n hx hb dJ7_copyOfRange_39247_4 rfl (lv_at hl 2 rfl) ?_
    refine o_aload_n hx hb dJ7_copyOfRange_39247_5 rfl (lv_at hl 0 rfl) ?_
    obtain ⟨a_9, ha_10, hf⟩ := ono_some hf
    refine o_at ha_10 ?_
    obtain ⟨hk_11, hf⟩ := gd_some hf
    refine q_lenb hx hb hK hp hC hk_11 dJ7_copyOfRange_39247_6 ?_
    refine lv_icmp_eq (tgt := 17) hx hb dJ7_copyOfRange_39247_7 (by decide) (fun c_12 => ?_) (fun c_12 => ?_)
    · have hf := pif_t c_12 hf
      refine o_aload_n hx hb dJ7_copyOfRange_39247_17 rfl (lv_at hl 0 rfl) ?_
      refine o_at ha_10 ?_
      obtain ⟨g_13, hf⟩ := gd_some hf
      have lthk_11 := hp.2.2.1.lt (i := a_9) (by rw [hk_11]; decide)
      obtain ⟨st_14, est_14, hf⟩ := nam_some hf
      have hmr := mo_J7_copyOfRange_39247_21  _ _ _ _ hf
      refine q_clone hx hb (by rw [hml]; exact hl.1.symm) hown (hts (.methodLink RJ7 310 ⟨"[B", "clone", "()Ljava/lang/Object;"⟩) (by decide +kernel)) (hts (.sameMethod "[B" "java/lang/Object" "clone" "()Ljava/lang/Object;") (by decide +kernel)) (hts (.native ⟨"java/lang/Object", "clone", "()Ljava/lang/Object;"⟩) (by decide +kernel)) (hts (.instanceMethod ⟨"java/lang/Object", "clone", "()Ljava/lang/Object;"⟩) (by decide +kernel)) (hts (.selects "[B" ⟨"[B", "clone", "()Ljava/lang/Object;"⟩ ⟨"java/lang/Object", "clone", "()Ljava/lang/Object;"⟩) (by decide +kernel)) hL hK hp hA g_13.1 hk_11 g_13.2 (Nat.le_of_ble_eq_true rfl) (Nat.le_of_ble_eq_true rfl) (by show qn st - qn st + 1 ≤ qn st' - qn st; have := hmr.1; have := hm.1; have := (wC_n est_14).1; omega) (by show qs st - qs st + ql st a_9 ≤ qs st' - qs st; have := hmr.2.1; have := hm.2.1; have := (wC_n est_14).2; omega) dJ7_copyOfRange_39247_18 (fun H hp => ?_)
      rw [← est_14] at hp
      have hk_11 : qk st_14 a_9 = 22 := by rw [est_14]; exact (va_up_ne _ _ (Nat.ne_of_lt lthk_11)).trans hk_11
      refine W.widen (k := qn st_14 - qn st) (n := qs st_14 - qs st) (by have := hm.1; have := (wC_n est_14).1; omega) (by have := hm.2.1; have := (wC_n est_14).2; omega) ?_
      have hm := hm.wC est_14
      exact J21 ((some (qn st)), st_14) _ _ _ ⟨hf, hp, (lv_sub hl [] rfl), hm⟩
    · have hf := pif_f c_12 hf
      exact J10 (p0, p1, p2, st) _ _ _ ⟨hf, hp, (lv_sub hl [0, 1, 2] rfl), hm⟩
noncomputable def fJ0_init_db425_35 (h0 : Nat)  (s0 : Option Nat) (gs : CS) : Option (CS) := gd (qk gs h0 = 1) (gd (32 ≤ h0) (nam (wP gs h0 0 s0) (fun st_3 => some st_3)))
set_option maxHeartbeats 1000000 in
theorem mo_J0_init_db425_35 (h0 : Nat)   (s0 : Option Nat) (gs : CS) (st' : CS) (hf : fJ0_init_db425_35 h0 s0 gs = some st') : Mo gs st' := by
  unfold fJ0_init_db425_35 at hf
  have hm : Mo gs gs := Mo.rf
  obtain ⟨hk_1, hf⟩ := gd_some hf
  obtain ⟨g_2, hf⟩ := gd_some hf
  obtain ⟨st_3, est_3, hf⟩ := nam_some hf
  have hm := hm.wP est_3
  have e2 := Option.some.inj hf
  exact e2 ▸ hm
noncomputable def fJ0_init_db425_19 (h0 : Nat)  (l3 : Option Nat) (l4 : Int32) (s0 : Int32) (gs : CS) : Option (CS) := pif (s0 = 0) (none) (gd (qk gs h0 = 1) (gd (32 ≤ h0) (nam (wI gs h0 1 0) (fun st_7 => bnd (fJ7_copyOfRange_39247 l3 0 l4 st_7) (fun r_10 st_8 => fJ0_init_db425_35 h0 r_10 st_8)))))
set_option maxHeartbeats 1000000 in
theorem mo_J0_init_db425_19 (h0 : Nat)   (l3 : Option Nat) (l4 : Int32) (s0 : Int32) (gs : CS) (st' : CS) (hf : fJ0_init_db425_19 h0 l3 l4 s0 gs = some st') : Mo gs st' := by
  unfold fJ0_init_db425_19 at hf
  have hm : Mo gs gs := Mo.rf
  rcases pif_or hf with ⟨c_4, hf⟩ | ⟨c_4, hf⟩
  · cases hf
  · obtain ⟨hk_5, hf⟩ := gd_some hf
    obtain ⟨g_6, hf⟩ := gd_some hf
    obtain ⟨st_7, est_7, hf⟩ := nam_some hf
    have hm := hm.wI est_7
    obtain ⟨r_10, st_8, hc_9, hf⟩ := bnd_some hf
    have hm := hm.tr (mo_J7_copyOfRange_39247 l3 0 l4 _ _ _ hc_9)
    exact hm.tr (mo_J0_init_db425_35 h0 r_10 st_8 _ hf)
noncomputable def fJ0_init_db425_13 (h0 : Nat)  (l1 : Option Nat) (l3 : Option Nat) (s0 : Int32) (gs : CS) : Option (CS) := ono l1 (fun a_11 => gd (qk gs a_11 = 2) (bnd (fJ5_isLatin1_aae02 a_11 gs) (fun r_16 st_14 => fJ0_init_db425_19 h0 l3 s0 r_16 st_14)))
set_option maxHeartbeats 1000000 in
theorem mo_J0_init_db425_13 (h0 : Nat)   (l1 : Option Nat) (l3 : Option Nat) (s0 : Int32) (gs : CS) (st' : CS) (hf : fJ0_init_db425_13 h0 l1 l3 s0 gs = some st') : Mo gs st' := by
  unfold fJ0_init_db425_13 at hf
  have hm : Mo gs gs := Mo.rf
  obtain ⟨a_11, ha_12, hf⟩ := ono_some hf
  obtain ⟨hk_13, hf⟩ := gd_some hf
  obtain ⟨r_16, st_14, hc_15, hf⟩ := bnd_some hf
  have hm := hm.ke (mo_J5_isLatin1_aae02 a_11 _ _ _ hc_15)
  exact hm.tr (mo_J0_init_db425_19 h0 l3 s0 r_16 st_14 _ hf)
noncomputable def fJ0_init_db425_8 (h0 : Nat)  (l1 : Option Nat) (s0 : Option Nat) (gs : CS) : Option (CS) := ono l1 (fun a_17 => gd (qk gs a_17 = 2) (bnd (fJ4_length_8abf5 a_17 gs) (fun r_22 st_20 => fJ0_init_db425_13 h0 l1 s0 r_22 st_20)))
set_option maxHeartbeats 1000000 in
theorem mo_J0_init_db425_8 (h0 : Nat)   (l1 : Option Nat) (s0 : Option Nat) (gs : CS) (st' : CS) (hf : fJ0_init_db425_8 h0 l1 s0 gs = some st') : Mo gs st' := by
  unfold fJ0_init_db425_8 at hf
  have hm : Mo gs gs := Mo.rf
  obtain ⟨a_17, ha_18, hf⟩ := ono_some hf
  obtain ⟨hk_19, hf⟩ := gd_some hf
  obtain ⟨r_22, st_20, hc_21, hf⟩ := bnd_some hf
  have hm := hm.ke (mo_J4_length_8abf5 a_17 _ _ _ hc_21)
  exact hm.tr (mo_J0_init_db425_13 h0 l1 s0 r_22 st_20 _ hf)
noncomputable def fJ0_init_db425_4 (h0 : Nat)  (l1 : Option Nat) (gs : CS) : Option (CS) := ono l1 (fun a_23 => gd (qk gs a_23 = 2) (bnd (fJ5_getValue_6d5f1 a_23 gs) (fun r_28 st_26 => fJ0_init_db425_8 h0 l1 r_28 st_26)))
set_option maxHeartbeats 1000000 in
theorem mo_J0_init_db425_4 (h0 : Nat)   (l1 : Option Nat) (gs : CS) (st' : CS) (hf : fJ0_init_db425_4 h0 l1 gs = some st') : Mo gs st' := by
  unfold fJ0_init_db425_4 at hf
  have hm : Mo gs gs := Mo.rf
  obtain ⟨a_23, ha_24, hf⟩ := ono_some hf
  obtain ⟨hk_25, hf⟩ := gd_some hf
  obtain ⟨r_28, st_26, hc_27, hf⟩ := bnd_some hf
  have hm := hm.ke (mo_J5_getValue_6d5f1 a_23 _ _ _ hc_27)
  exact hm.tr (mo_J0_init_db425_8 h0 l1 r_28 st_26 _ hf)
noncomputable def fJ0_init_db425 (h0 : Nat) (p0 : Option Nat) (p1 : Option Nat) (st : CS) : Option (CS) := fJ0_init_db425_4 h0 p0 st
set_option maxHeartbeats 1000000 in
theorem mo_J0_init_db425 (h0 : Nat) (p0 : Option Nat) (p1 : Option Nat) (st : CS) (st' : CS) (hf : fJ0_init_db425 h0 p0 p1 st = some st') : Mo st st' := by
  unfold fJ0_init_db425 at hf
  have hm : Mo st st := Mo.rf
  exact hm.tr (mo_J0_init_db425_4 h0 p0 st _ hf)
def wq_J0_init_db425 : List Cond := .code yJ0_init_db425 cJ0_init_db425 5 none :: (([.methodLink RJ0 1 objectInit, .instanceMethod objectInit, .code objectInit ⟨#[0xb1]⟩ 1 none, .fieldLink RJ0 15 "java/lang/String" "coder" "B", .fieldLink RJ0 9 "java/lang/String" "value" "[B", .methodLink RJ0 54 yJ7_copyOfRange_39247, .static yJ7_copyOfRange_39247, .initialized RJ7, .methodLink RJ0 1047 ⟨"java/lang/AbstractStringBuilder", "isLatin1", "()Z"⟩, .sameMethod "java/lang/AbstractStringBuilder" "java/lang/AbstractStringBuilder" "isLatin1" "()Z", .selects RJ4 ⟨"java/lang/AbstractStringBuilder", "isLatin1", "()Z"⟩ yJ5_isLatin1_aae02, .instanceMethod yJ5_isLatin1_aae02, .initialized RJ5, .methodLink RJ0 549 ⟨"java/lang/AbstractStringBuilder", "length", "()I"⟩, .sameMethod "java/lang/AbstractStringBuilder" "java/lang/AbstractStringBuilder" "length" "()I", .instanceMethod yJ5_length_8abf5, .selects RJ4 ⟨"java/lang/AbstractStringBuilder", "length", "()I"⟩ yJ4_length_8abf5, .instanceMethod yJ4_length_8abf5, .initialized RJ4, .methodLink RJ0 552 ⟨"java/lang/AbstractStringBuilder", "getValue", "()[B"⟩, .sameMethod "java/lang/AbstractStringBuilder" "java/lang/AbstractStringBuilder" "getValue" "()[B", .selects RJ4 ⟨"java/lang/AbstractStringBuilder", "getValue", "()[B"⟩ yJ5_getValue_6d5f1, .instanceMethod yJ5_getValue_6d5f1, .code yJ7_copyOfRange_39247 cJ7_copyOfRange_39247 3 (some (.array .byte)), .classLink RJ7 311 "[B", .methodLink RJ7 339 yJ7_copyOfRangeByte_39247, .static yJ7_copyOfRangeByte_39247, .methodLink RJ7 310 ⟨"[B", "clone", "()Ljava/lang/Object;"⟩, .sameMethod "[B" "java/lang/Object" "clone" "()Ljava/lang/Object;", .native ⟨"java/lang/Object", "clone", "()Ljava/lang/Object;"⟩, .instanceMethod ⟨"java/lang/Object", "clone", "()Ljava/lang/Object;"⟩, .selects "[B" ⟨"[B", "clone", "()Ljava/lang/Object;"⟩ ⟨"java/lang/Object", "clone", "()Ljava/lang/Object;"⟩, .code yJ7_copyOfRangeByte_39247 cJ7_copyOfRangeByte_39247 5 (some (.array .byte)), .methodLink RJ7 304 Lib.Math.min.name, .static Lib.Math.min.name, .initialized "java/lang/Math", .code Lib.Math.min.name Lib.Math.min.code 2 (some .int), .methodLink RJ7 150 arraycopyName, .native arraycopyName, .static arraycopyName, .initialized "java/lang/System", .arrayClass .byte, .methodLink RJ7 343 yJ7_checkLength_df160, .static yJ7_checkLength_df160, .code yJ7_checkLength_df160 cJ7_checkLength_df160 2 none, .code yJ5_isLatin1_aae02 cJ5_isLatin1_aae02 1 (some .boolean), .fieldLink RJ5 18 "java/lang/String" "COMPACT_STRINGS" "Z", .fieldLink RJ5 22 "java/lang/AbstractStringBuilder" "coder" "B", .code yJ4_length_8abf5 cJ4_length_8abf5 1 (some .int), .methodLink RJ4 343 yJ5_length_8abf5, .superclass RJ4 RJ5, .code yJ5_length_8abf5 cJ5_length_8abf5 1 (some .int), .fieldLink RJ5 79 "java/lang/AbstractStringBuilder" "count" "I", .code yJ5_getValue_6d5f1 cJ5_getValue_6d5f1 1 (some (.array .byte)), .fieldLink RJ5 15 "java/lang/AbstractStringBuilder" "value" "[B"] : List Cond) ++ wsJ00 ++ wsJ40)
set_option maxRecDepth 20000 in
theorem gq_J0_init_db425_J7_copyOfRange_39247_54 : GoodIn wq_J0_init_db425 (va_wsS RJ0 54 yJ7_copyOfRange_39247 wq_J7_copyOfRange_39247) := goodIn_app (goodIn_r _ [6, 7, 8] rfl rfl) (goodIn_r _ [24, 25, 26, 27, 8, 28, 29, 30, 31, 32, 33, 34, 35, 36, 37, 38, 39, 40, 41, 42, 43, 44, 45] rfl rfl)
set_option maxRecDepth 20000 in
theorem gq_J0_init_db425_J5_isLatin1_aae02_1047 : GoodIn wq_J0_init_db425 (va_wsU RJ0 1047 RJ4 RJ5 ⟨"java/lang/AbstractStringBuilder", "isLatin1", "()Z"⟩ yJ5_isLatin1_aae02 wq_J5_isLatin1_aae02) := goodIn_p _ [46] rfl (by decide +kernel)
set_option maxRecDepth 20000 in
theorem gq_J0_init_db425_J4_length_8abf5_549 : GoodIn wq_J0_init_db425 (va_wsO RJ0 549 RJ4 RJ5 ⟨"java/lang/AbstractStringBuilder", "length", "()I"⟩ yJ4_length_8abf5 wq_J4_length_8abf5) := goodIn_p _ [49, 52] rfl (by decide +kernel)
set_option maxRecDepth 20000 in
theorem gq_J0_init_db425_J5_getValue_6d5f1_552 : GoodIn wq_J0_init_db425 (va_wsU RJ0 552 RJ4 RJ5 ⟨"java/lang/AbstractStringBuilder", "getValue", "()[B"⟩ yJ5_getValue_6d5f1 wq_J5_getValue_6d5f1) := goodIn_p _ [54] rfl (by decide +kernel)
set_option maxHeartbeats 4000000 in
set_option maxRecDepth 100000 in
theorem c_J0_init_db425 (l : Launch) (dC : Nat → ClassId) (dI : Nat → Nat → Nat) (ka ad : Nat → Nat) (ct : Nat → ClassId) (h0 : Nat) (p0 : Option Nat) (p1 : Option Nat) (st st' : CS) (hf : fJ0_init_db425 h0 p0 p1 st = some st') (sz : Nat) : Met l yJ0_init_db425 wq_J0_init_db425 ({ frames := 3, cells := (qn st' - qn st), slots := (qs st' - qs st), locals := 98 }) (va_Pc [.ref (ad h0), va_rf (Option.map ad p0), va_rf (Option.map ad p1)] (PrC (dC, dI) ct ka ad st sz)) (va_Qv (fun (_ : Unit) => True) (fun _ => CB (dC, dI) ct ka ad st' (aC ad st sz)) (aC ad st sz)) (qn st' - qn st) (qs st' - qs st) (aC ad st sz) := by
  refine Met.ofW (cc := cJ0_init_db425) (maxL := 5) (ret := none) (by decide) rfl ?_
  intro p e s m args below meth c s₁ B hml hv
  obtain ⟨rfl, hsz, hw0, hK, hN, hZ, hC, hR, hL, hw1, hw2⟩ := hv
  have hx := B.exec
  have hb := B.bytes
  have hr := B.returns
  have hts := atoms_spec (ws := wq_J0_init_db425) B.pre
  have hown : s.vm.findClass RJ0 = some m.cls := findClass_of_methodNamed B.named
  have hin : meth.name = "<init>" := (name_of_methodNamed B.named B.method).1
  have iRJ0 : ∀ w ∈ u_ws RJ0 TJ0 4, w ∈ wq_J0_init_db425 := fun w h => List.mem_cons_of_mem _ (List.mem_append_left _ (List.mem_append_right _ h))
  subst hsz
  have hp : Cp (dC, dI) ka ad ct (aC ad st s.heap.size) s.heap st s.heap [] := ⟨fun i a b => ⟨hw0 i a b, Or.inl ⟨i, a, b, rfl⟩⟩, va_S.rf, hw1, hw2⟩
  generalize hAe : aC ad st s.heap.size = A at hp hZ hC ⊢
  have hA : ∀ q : Nat, s.heap.size ≤ q → A q := fun q h => by rw [← hAe]; exact Or.inr h
  have hl := lv_entry ([.ref (ad h0), va_rf (Option.map ad p0), va_rf (Option.map ad p1)]) (n := 5) (by simp [lg_sl, rf_cat, vc_i, vc_l, vc_r, vc_n])
  rw [lg_entry_eq]
  generalize (lg_sl ([.ref (ad h0), va_rf (Option.map ad p0), va_rf (Option.map ad p1)]) ++ List.replicate (5 - (lg_sl ([.ref (ad h0), va_rf (Option.map ad p0), va_rf (Option.map ad p1)])).length) Slot.unset).toArray = ls at hl ⊢
  have hl : lv_has ls 5 [(0, .ref (ad h0)), (1, va_rf (Option.map ad p0)), (2, va_rf (Option.map ad p1))] := by simpa [lv_args, rf_cat, vc_i, vc_l, vc_r, vc_n] using hl
  have hm : Mo st st := Mo.rf
  refine W.widen (k := qn st - qn st) (n := qs st - qs st) (Nat.zero_le _) (Nat.zero_le _) ?_
  refine W_blkA (fun (u : (Option Nat) × CS) H locs ls => match u with | (s0, gs) => fJ0_init_db425_35 h0 s0 gs = some st' ∧ Cp (dC, dI) ka ad ct A s.heap gs H locs ∧ lv_has ls 5 [] ∧ Mo st gs) (fun (u : (Option Nat) × CS) ls => match u with | (s0, gs) => F0 m 35 ls [va_rf (Option.map ad s0), .ref (ad h0)]) (fun (u : (Option Nat) × CS) => match u with | (s0, gs) => qn gs - qn st) (fun (u : (Option Nat) × CS) => match u with | (s0, gs) => qs gs - qs st) ?_ (fun J35 => ?_)
  · intro u H locs ls hu
    obtain ⟨s0, gs⟩ := u
    obtain ⟨hf, hp, hl, hm⟩ := hu
    show W p l e _ s m _ below meth c _ _ (qn gs - qn st) (qs gs - qs st) _ (F0 m 35 ls [va_rf (Option.map ad s0), .ref (ad h0)])
    unfold fJ0_init_db425_35 at hf
    obtain ⟨hk_1, hf⟩ := gd_some hf
    obtain ⟨g_2, hf⟩ := gd_some hf
    refine q_pFp (ci := 0) (C := RJ0) (T := TJ0) (N := 4) (k := 0) (v := s0) (ty := (.array .byte)) hx hb hts iRJ0 tyJ0 tyJ0_ok nmJ0 hown hK hp g_2 hk_1 (by decide) rfl rfl (by decide) rfl (hts (.fieldLink RJ0 9 "java/lang/String" "value" "[B") (by decide +kernel)) (fun _ h9 => h9) rfl hin rfl (by decide +kernel) (rf_narA rfl _) dJ0_init_db425_35 (fun H locs hp => ?_)
    obtain ⟨st_3, est_3, hf⟩ := nam_some hf
    rw [← est_3] at hp
    have hm := hm.wP est_3
    refine W.widen (k := qn st_3 - qn st) (n := qs st_3 - qs st) (by rw [est_3]; exact Nat.le_refl _) (by rw [est_3]; exact Nat.le_refl _) ?_
    have hk_1 : qk st_3 h0 = 1 := by rw [est_3]; exact hk_1
    refine lv_goto (tgt := 97) hx hb dJ0_init_db425_38 (by decide) ?_
    have e2 := Option.some.inj hf
    refine W.widen (k := qn st' - qn st) (n := qs st' - qs st) (by rw [e2]; exact Nat.le_refl _) (by rw [e2]; exact Nat.le_refl _) ?_
    exact W.vret hx hb hr (fun t ht hW => ⟨⟨(), rfl, trivial, Cp.end e2 hp ht⟩, hp.2.1.F ht⟩) hp.2.1.2.2 dJ0_init_db425_97
  refine W_blkA (fun (u : (Option Nat) × Int32 × Int32 × CS) H locs ls => match u with | (l3, l4, s0, gs) => fJ0_init_db425_19 h0 l3 l4 s0 gs = some st' ∧ Cp (dC, dI) ka ad ct A s.heap gs H locs ∧ lv_has ls 5 [(0, .ref (ad h0)), (3, va_rf (Option.map ad l3)), (4, .int l4)] ∧ Mo st gs) (fun (u : (Option Nat) × Int32 × Int32 × CS) ls => match u with | (l3, l4, s0, gs) => F0 m 19 ls [.int s0]) (fun (u : (Option Nat) × Int32 × Int32 × CS) => match u with | (l3, l4, s0, gs) => qn gs - qn st) (fun (u : (Option Nat) × Int32 × Int32 × CS) => match u with | (l3, l4, s0, gs) => qs gs - qs st) ?_ (fun J19 => ?_)
  · intro u H locs ls hu
    obtain ⟨l3, l4, s0, gs⟩ := u
    obtain ⟨hf, hp, hl, hm⟩ := hu
    show W p l e _ s m _ below meth c _ _ (qn gs - qn st) (qs gs - qs st) _ (F0 m 19 ls [.int s0])
    unfold fJ0_init_db425_19 at hf
    refine lv_if_eq (tgt := 41) hx hb dJ0_init_db425_19 (by decide) (fun c_4 => ?_) (fun c_4 => ?_)
    · have hf := pif_t c_4 hf
      cases hf
    · have hf := pif_f c_4 hf
      refine lv_aload_n hx hb dJ0_init_db425_22 rfl (lv_at hl 0 rfl) ?_
      refine lv_iconst (v := 0) hx hb dJ0_init_db425_23 (by decide) ?_
      obtain ⟨hk_5, hf⟩ := gd_some hf
      obtain ⟨g_6, hf⟩ := gd_some hf
      refine q_pFi (ci := 0) (C := RJ0) (T := TJ0) (N := 4) (k := 1) (v := 0) (ty := .byte) hx hb hts iRJ0 tyJ0 tyJ0_ok nmJ0 hown hK hp g_6 hk_5 (by decide) rfl rfl (by decide) rfl (hts (.fieldLink RJ0 15 "java/lang/String" "coder" "B") (by decide +kernel)) (fun _ h9 => h9) rfl hin rfl (by decide +kernel) rfl rfl dJ0_init_db425_24 (fun H locs hp => ?_)
      obtain ⟨st_7, est_7, hf⟩ := nam_some hf
      rw [← est_7] at hp
      have hm := hm.wI est_7
      refine W.widen (k := qn st_7 - qn st) (n := qs st_7 - qs st) (by rw [est_7]; exact Nat.le_refl _) (by rw [est_7]; exact Nat.le_refl _) ?_
      have hk_5 : qk st_7 h0 = 1 := by rw [est_7]; exact hk_5
      refine lv_aload_n hx hb dJ0_init_db425_27 rfl (lv_at hl 0 rfl) ?_
      refine o_aload_n hx hb dJ0_init_db425_28 rfl (lv_at hl 1 rfl) ?_
      refine lv_iconst (v := 0) hx hb dJ0_init_db425_29 (by decide) ?_
      refine lv_iload hx hb dJ0_init_db425_30 (lv_at hl 2 rfl) ?_
      obtain ⟨r_10, st_8, hc_9, hf⟩ := bnd_some hf
      have lthk_5 := hp.2.2.1.lt (i := h0) (by rw [hk_5]; decide)
      have hmc := (mo_J7_copyOfRange_39247 l3 0 l4 _ _ _ hc_9)
      have hmr := mo_J0_init_db425_35 h0 _ _ _ hf
      refine q_cq hp hA (va_runS (As := [va_rf (Option.map ad l3), .int 0, .int l4]) (rest := [.ref (ad h0)]) ⟨hx, hb, hml, hown, hts⟩ (c_J7_copyOfRange_39247 l dC dI ka ad ct l3 0 l4 _ _ _ hc_9 _) (va_cwS 3 hts gq_J0_init_db425_J7_copyOfRange_39247_54 rfl rfl rfl (by decide +kernel) ⟨Nat.le_of_ble_eq_true rfl, Nat.le_of_ble_eq_true rfl⟩) ⟨PrC.blind _, q_pre hp hK hN hZ hC hR hL hA⟩ rfl rfl hl.1 rfl (lv_room (Nat.le_of_ble_eq_true rfl)) dJ0_init_db425_32 ⟨by show qn st_7 - qn st + (qn st_8 - qn st_7) ≤ qn st' - qn st; have := hmr.1; have := hm.1; have := hmc.1; omega, by show qs st_7 - qs st + (qs st_8 - qs st_7) ≤ qs st' - qs st; have := hmr.2.1; have := hm.2.1; have := hmc.2.1; omega⟩) (fun H locs hp => ?_)
      have hk_5 : qk st_8 h0 = 1 := ((mo_J7_copyOfRange_39247 l3 0 l4 _ _ _ hc_9).2.2 _ lthk_5).1.trans hk_5
      refine W.widen (k := qn st_8 - qn st) (n := qs st_8 - qs st) (by have := hm.1; have := hmc.1; omega) (by have := hm.2.1; have := hmc.2.1; omega) ?_
      have hm := hm.tr hmc
      exact J35 (r_10, st_8) _ _ _ ⟨hf, hp, (lv_sub hl [] rfl), hm⟩
  refine W_blkA (fun (u : (Option Nat) × (Option Nat) × Int32 × CS) H locs ls => match u with | (l1, l3, s0, gs) => fJ0_init_db425_13 h0 l1 l3 s0 gs = some st' ∧ Cp (dC, dI) ka ad ct A s.heap gs H locs ∧ lv_has ls 5 [(0, .ref (ad h0)), (1, va_rf (Option.map ad l1)), (3, va_rf (Option.map ad l3))] ∧ Mo st gs) (fun (u : (Option Nat) × (Option Nat) × Int32 × CS) ls => match u with | (l1, l3, s0, gs) => F0 m 13 ls [.int s0]) (fun (u : (Option Nat) × (Option Nat) × Int32 × CS) => match u with | (l1, l3, s0, gs) => qn gs - qn st) (fun (u : (Option Nat) × (Option Nat) × Int32 × CS) => match u with | (l1, l3, s0, gs) => qs gs - qs st) ?_ (fun J13 => ?_)
  · intro u H locs ls hu
    obtain ⟨l1, l3, s0, gs⟩ := u
    obtain ⟨hf, hp, hl, hm⟩ := hu
    show W p l e _ s m _ below meth c _ _ (qn gs - qn st) (qs gs - qs st) _ (F0 m 13 ls [.int s0])
    unfold fJ0_init_db425_13 at hf
    refine lv_istore (i := 4) (lv' := [(4, .int s0), (0, .ref (ad h0)), (1, va_rf (Option.map ad l1)), (3, va_rf (Option.map ad l3))]) hx hb dJ0_init_db425_13 hl (by decide) (by simp [rf_cat, vc_i, vc_l, vc_r, vc_n]) (fun ls hl => ?_)
    refine o_aload_n hx hb dJ0_init_db425_15 rfl (lv_at hl 2 rfl) ?_
    obtain ⟨a_11, ha_12, hf⟩ := ono_some hf
    refine o_at ha_12 ?_
    obtain ⟨hk_13, hf⟩ := gd_some hf
    obtain ⟨r_16, st_14, hc_15, hf⟩ := bnd_some hf
    have hmc := (mo_J5_isLatin1_aae02 a_11 _ _ _ hc_15).mo
    have hmr := mo_J0_init_db425_19 h0 _ _ _ _ _ hf
    refine q_ci hp hA (va_runU (As := []) (rest := []) ⟨hx, hb, hml, hown, hts⟩ (c_J5_isLatin1_aae02 l dC dI ka ad ct a_11 _ _ _ hc_15 _) (va_cwU 0 hts gq_J0_init_db425_J5_isLatin1_aae02_1047 rfl rfl rfl rfl (by decide +kernel) ⟨Nat.le_of_ble_eq_true rfl, Nat.le_of_ble_eq_true rfl⟩) ⟨PrC.blind _, q_rv1 hK hp hC hk_13, q_pre hp hK hN hZ hC hR hL hA⟩ rfl rfl hl.1 rfl (lv_room (Nat.le_of_ble_eq_true rfl)) dJ0_init_db425_16 ⟨by show qn gs - qn st + 0 ≤ qn st' - qn st; have := hmr.1; have := hm.1; have := hmc.1; omega, by show qs gs - qs st + 0 ≤ qs st' - qs st; have := hmr.2.1; have := hm.2.1; have := hmc.2.1; omega⟩) (fun H locs hp => ?_)
    have hk_13 : qk st_14 a_11 = 2 := by rw [(mo_J5_isLatin1_aae02 a_11 _ _ _ hc_15).2.2.1]; exact hk_13
    refine W.widen (k := qn st_14 - qn st) (n := qs st_14 - qs st) (by have := hmc.1; omega) (by have := hmc.2.1; omega) ?_
    have hm := hm.tr hmc
    exact J19 (l3, s0, r_16, st_14) _ _ _ ⟨hf, hp, (lv_sub hl [1, 3, 0] rfl), hm⟩
  refine W_blkA (fun (u : (Option Nat) × (Option Nat) × CS) H locs ls => match u with | (l1, s0, gs) => fJ0_init_db425_8 h0 l1 s0 gs = some st' ∧ Cp (dC, dI) ka ad ct A s.heap gs H locs ∧ lv_has ls 5 [(0, .ref (ad h0)), (1, va_rf (Option.map ad l1))] ∧ Mo st gs) (fun (u : (Option Nat) × (Option Nat) × CS) ls => match u with | (l1, s0, gs) => F0 m 8 ls [va_rf (Option.map ad s0)]) (fun (u : (Option Nat) × (Option Nat) × CS) => match u with | (l1, s0, gs) => qn gs - qn st) (fun (u : (Option Nat) × (Option Nat) × CS) => match u with | (l1, s0, gs) => qs gs - qs st) ?_ (fun J8 => ?_)
  · intro u H locs ls hu
    obtain ⟨l1, s0, gs⟩ := u
    obtain ⟨hf, hp, hl, hm⟩ := hu
    show W p l e _ s m _ below meth c _ _ (qn gs - qn st) (qs gs - qs st) _ (F0 m 8 ls [va_rf (Option.map ad s0)])
    unfold fJ0_init_db425_8 at hf
    refine o_astore_n (i := 3) (lv' := [(3, va_rf (Option.map ad s0)), (0, .ref (ad h0)), (1, va_rf (Option.map ad l1))]) hx hb dJ0_init_db425_8 rfl hl (by decide) rfl (fun ls hl => ?_)
    refine o_aload_n hx hb dJ0_init_db425_9 rfl (lv_at hl 2 rfl) ?_
    obtain ⟨a_17, ha_18, hf⟩ := ono_some hf
    refine o_at ha_18 ?_
    obtain ⟨hk_19, hf⟩ := gd_some hf
    obtain ⟨r_22, st_20, hc_21, hf⟩ := bnd_some hf
    have hmc := (mo_J4_length_8abf5 a_17 _ _ _ hc_21).mo
    have hmr := mo_J0_init_db425_13 h0 _ _ _ _ _ hf
    refine q_ci hp hA (va_runU (As := []) (rest := []) ⟨hx, hb, hml, hown, hts⟩ (c_J4_length_8abf5 l dC dI ka ad ct a_17 _ _ _ hc_21 _) (va_cwO 0 hts gq_J0_init_db425_J4_length_8abf5_549 rfl rfl rfl (List.mem_of_getElem? (i := 52) rfl) (by decide +kernel) ⟨Nat.le_of_ble_eq_true rfl, Nat.le_of_ble_eq_true rfl⟩) ⟨PrC.blind _, q_rv1 hK hp hC hk_19, q_pre hp hK hN hZ hC hR hL hA⟩ rfl rfl hl.1 rfl (lv_room (Nat.le_of_ble_eq_true rfl)) dJ0_init_db425_10 ⟨by show qn gs - qn st + 0 ≤ qn st' - qn st; have := hmr.1; have := hm.1; have := hmc.1; omega, by show qs gs - qs st + 0 ≤ qs st' - qs st; have := hmr.2.1; have := hm.2.1; have := hmc.2.1; omega⟩) (fun H locs hp => ?_)
    have hk_19 : qk st_20 a_17 = 2 := by rw [(mo_J4_length_8abf5 a_17 _ _ _ hc_21).2.2.1]; exact hk_19
    refine W.widen (k := qn st_20 - qn st) (n := qs st_20 - qs st) (by have := hmc.1; omega) (by have := hmc.2.1; omega) ?_
    have hm := hm.tr hmc
    exact J13 (l1, s0, r_22, st_20) _ _ _ ⟨hf, hp, (lv_sub hl [1, 2, 0] rfl), hm⟩
  refine W_blkA (fun (u : (Option Nat) × CS) H locs ls => match u with | (l1, gs) => fJ0_init_db425_4 h0 l1 gs = some st' ∧ Cp (dC, dI) ka ad ct A s.heap gs H locs ∧ lv_has ls 5 [(0, .ref (ad h0)), (1, va_rf (Option.map ad l1))] ∧ Mo st gs) (fun (u : (Option Nat) × CS) ls => match u with | (l1, gs) => F0 m 4 ls []) (fun (u : (Option Nat) × CS) => match u with | (l1, gs) => qn gs - qn st) (fun (u : (Option Nat) × CS) => match u with | (l1, gs) => qs gs - qs st) ?_ (fun J4 => ?_)
  · intro u H locs ls hu
    obtain ⟨l1, gs⟩ := u
    obtain ⟨hf, hp, hl, hm⟩ := hu
    show W p l e _ s m _ below meth c _ _ (qn gs - qn st) (qs gs - qs st) _ (F0 m 4 ls [])
    unfold fJ0_init_db425_4 at hf
    refine o_aload_n hx hb dJ0_init_db425_4 rfl (lv_at hl 1 rfl) ?_
    obtain ⟨a_23, ha_24, hf⟩ := ono_some hf
    refine o_at ha_24 ?_
    obtain ⟨hk_25, hf⟩ := gd_some hf
    obtain ⟨r_28, st_26, hc_27, hf⟩ := bnd_some hf
    have hmc := (mo_J5_getValue_6d5f1 a_23 _ _ _ hc_27).mo
    have hmr := mo_J0_init_db425_8 h0 _ _ _ _ hf
    refine q_cq hp hA (va_runU (As := []) (rest := []) ⟨hx, hb, hml, hown, hts⟩ (c_J5_getValue_6d5f1 l dC dI ka ad ct a_23 _ _ _ hc_27 _) (va_cwU 0 hts gq_J0_init_db425_J5_getValue_6d5f1_552 rfl rfl rfl rfl (by decide +kernel) ⟨Nat.le_of_ble_eq_true rfl, Nat.le_of_ble_eq_true rfl⟩) ⟨PrC.blind _, q_rv1 hK hp hC hk_25, q_pre hp hK hN hZ hC hR hL hA⟩ rfl rfl hl.1 rfl (lv_room (Nat.le_of_ble_eq_true rfl)) dJ0_init_db425_5 ⟨by show qn gs - qn st + 0 ≤ qn st' - qn st; have := hmr.1; have := hm.1; have := hmc.1; omega, by show qs gs - qs st + 0 ≤ qs st' - qs st; have := hmr.2.1; have := hm.2.1; have := hmc.2.1; omega⟩) (fun H locs hp => ?_)
    have hk_25 : qk st_26 a_23 = 2 := by rw [(mo_J5_getValue_6d5f1 a_23 _ _ _ hc_27).2.2.1]; exact hk_25
    refine W.widen (k := qn st_26 - qn st) (n := qs st_26 - qs st) (by have := hmc.1; omega) (by have := hmc.2.1; omega) ?_
    have hm := hm.tr hmc
    exact J8 (l1, r_28, st_26) _ _ _ ⟨hf, hp, (lv_sub hl [0, 1] rfl), hm⟩
  unfold fJ0_init_db425 at hf
  refine lv_aload_n hx hb dJ0_init_db425_0 rfl (lv_at hl 0 rfl) ?_
  refine W.objInit hx hb hown (hts (.methodLink RJ0 1 objectInit) (by decide +kernel)) (hts (.instanceMethod objectInit) (by decide +kernel)) (hts (.code objectInit ⟨#[0xb1]⟩ 1 none) (by decide +kernel)) rfl (by rw [hml]; exact hl.1) rfl dJ0_init_db425_1 (Nat.le_of_ble_eq_true rfl) (Nat.le_of_ble_eq_true rfl) ?_
  refine W.eq (g2 := F0 m 4 ls []) rfl ?_
  exact J4 (p0, st) _ _ _ ⟨hf, hp, (lv_sub hl [0, 1] rfl), hm⟩
noncomputable def fJ0_init_81219_6 (h0 : Nat)  (gs : CS) : Option (CS) := some gs
set_option maxHeartbeats 1000000 in
theorem mo_J0_init_81219_6 (h0 : Nat)   (gs : CS) (st' : CS) (hf : fJ0_init_81219_6 h0 gs = some st') : Mo gs st' := by
  unfold fJ0_init_81219_6 at hf
  have hm : Mo gs gs := Mo.rf
  have e2 := Option.some.inj hf
  exact e2 ▸ hm
noncomputable def fJ0_init_81219 (h0 : Nat) (p0 : Option Nat) (st : CS) : Option (CS) := gd (qk st h0 = 1) (bnv (fJ0_init_db425 h0 p0 none st) (fun st_2 => fJ0_init_81219_6 h0 st_2))
set_option maxHeartbeats 1000000 in
theorem mo_J0_init_81219 (h0 : Nat) (p0 : Option Nat) (st : CS) (st' : CS) (hf : fJ0_init_81219 h0 p0 st = some st') : Mo st st' := by
  unfold fJ0_init_81219 at hf
  have hm : Mo st st := Mo.rf
  obtain ⟨hk_1, hf⟩ := gd_some hf
  obtain ⟨st_2, hc_3, hf⟩ := bnv_some hf
  have hm := hm.tr (mo_J0_init_db425 h0 p0 none _ _ hc_3)
  exact hm.tr (mo_J0_init_81219_6 h0 st_2 _ hf)
def wq_J0_init_81219 : List Cond := .code yJ0_init_81219 cJ0_init_81219 2 none :: (([.instanceMethod yJ0_init_db425, .initialized RJ0, .methodLink RJ0 489 yJ0_init_db425, .code yJ0_init_db425 cJ0_init_db425 5 none, .methodLink RJ0 1 objectInit, .instanceMethod objectInit, .code objectInit ⟨#[0xb1]⟩ 1 none, .fieldLink RJ0 15 "java/lang/String" "coder" "B", .fieldLink RJ0 9 "java/lang/String" "value" "[B", .methodLink RJ0 54 yJ7_copyOfRange_39247, .static yJ7_copyOfRange_39247, .initialized RJ7, .methodLink RJ0 1047 ⟨"java/lang/AbstractStringBuilder", "isLatin1", "()Z"⟩, .sameMethod "java/lang/AbstractStringBuilder" "java/lang/AbstractStringBuilder" "isLatin1" "()Z", .selects RJ4 ⟨"java/lang/AbstractStringBuilder", "isLatin1", "()Z"⟩ yJ5_isLatin1_aae02, .instanceMethod yJ5_isLatin1_aae02, .initialized RJ5, .methodLink RJ0 549 ⟨"java/lang/AbstractStringBuilder", "length", "()I"⟩, .sameMethod "java/lang/AbstractStringBuilder" "java/lang/AbstractStringBuilder" "length" "()I", .instanceMethod yJ5_length_8abf5, .selects RJ4 ⟨"java/lang/AbstractStringBuilder", "length", "()I"⟩ yJ4_length_8abf5, .instanceMethod yJ4_length_8abf5, .initialized RJ4, .methodLink RJ0 552 ⟨"java/lang/AbstractStringBuilder", "getValue", "()[B"⟩, .sameMethod "java/lang/AbstractStringBuilder" "java/lang/AbstractStringBuilder" "getValue" "()[B", .selects RJ4 ⟨"java/lang/AbstractStringBuilder", "getValue", "()[B"⟩ yJ5_getValue_6d5f1, .instanceMethod yJ5_getValue_6d5f1, .code yJ7_copyOfRange_39247 cJ7_copyOfRange_39247 3 (some (.array .byte)), .classLink RJ7 311 "[B", .methodLink RJ7 339 yJ7_copyOfRangeByte_39247, .static yJ7_copyOfRangeByte_39247, .methodLink RJ7 310 ⟨"[B", "clone", "()Ljava/lang/Object;"⟩, .sameMethod "[B" "java/lang/Object" "clone" "()Ljava/lang/Object;", .native ⟨"java/lang/Object", "clone", "()Ljava/lang/Object;"⟩, .instanceMethod ⟨"java/lang/Object", "clone", "()Ljava/lang/Object;"⟩, .selects "[B" ⟨"[B", "clone", "()Ljava/lang/Object;"⟩ ⟨"java/lang/Object", "clone", "()Ljava/lang/Object;"⟩, .code yJ7_copyOfRangeByte_39247 cJ7_copyOfRangeByte_39247 5 (some (.array .byte)), .methodLink RJ7 304 Lib.Math.min.name, .static Lib.Math.min.name, .initialized "java/lang/Math", .code Lib.Math.min.name Lib.Math.min.code 2 (some .int), .methodLink RJ7 150 arraycopyName, .native arraycopyName, .static arraycopyName, .initialized "java/lang/System", .arrayClass .byte, .methodLink RJ7 343 yJ7_checkLength_df160, .static yJ7_checkLength_df160, .code yJ7_checkLength_df160 cJ7_checkLength_df160 2 none, .code yJ5_isLatin1_aae02 cJ5_isLatin1_aae02 1 (some .boolean), .fieldLink RJ5 18 "java/lang/String" "COMPACT_STRINGS" "Z", .fieldLink RJ5 22 "java/lang/AbstractStringBuilder" "coder" "B", .code yJ4_length_8abf5 cJ4_length_8abf5 1 (some .int), .methodLink RJ4 343 yJ5_length_8abf5, .superclass RJ4 RJ5, .code yJ5_length_8abf5 cJ5_length_8abf5 1 (some .int), .fieldLink RJ5 79 "java/lang/AbstractStringBuilder" "count" "I", .code yJ5_getValue_6d5f1 cJ5_getValue_6d5f1 1 (some (.array .byte)), .fieldLink RJ5 15 "java/lang/AbstractStringBuilder" "value" "[B"] : List Cond) ++ wsJ00 ++ wsJ40)
theorem gs_wq_J0_init_81219_wsJ00 : GoodIn wq_J0_init_81219 wsJ00 := fun w h => ⟨List.mem_cons_of_mem _ (List.mem_append_left _ (List.mem_append_right _ h)), (gt_wsJ00 w h).2⟩
theorem gs_wq_J0_init_81219_wsJ40 : GoodIn wq_J0_init_81219 wsJ40 := fun w h => ⟨List.mem_cons_of_mem _ (List.mem_append_right _ h), (gt_wsJ40 w h).2⟩
set_option maxRecDepth 20000 in
theorem gq_J0_init_81219_J0_init_db425_489 : GoodIn wq_J0_init_81219 (wq_J0_init_db425) := (goodIn_ca (goodIn_ca (goodIn_r _ [4, 5, 6, 7, 8, 9, 10, 11, 12, 13, 14, 15, 16, 17, 18, 19, 20, 21, 22, 23, 24, 25, 26, 27, 28, 29, 30, 31, 32, 33, 34, 35, 36, 37, 38, 39, 40, 41, 42, 43, 44, 45, 46, 47, 48, 49, 50, 51, 52, 53, 54, 55, 56, 57, 58, 59] rfl rfl) gs_wq_J0_init_81219_wsJ00) gs_wq_J0_init_81219_wsJ40)
set_option maxHeartbeats 4000000 in
set_option maxRecDepth 100000 in
theorem c_J0_init_81219 (l : Launch) (dC : Nat → ClassId) (dI : Nat → Nat → Nat) (ka ad : Nat → Nat) (ct : Nat → ClassId) (h0 : Nat) (p0 : Option Nat) (st st' : CS) (hf : fJ0_init_81219 h0 p0 st = some st') (sz : Nat) : Met l yJ0_init_81219 wq_J0_init_81219 ({ frames := 4, cells := (qn st' - qn st), slots := (qs st' - qs st), locals := 126 }) (va_Pc [.ref (ad h0), va_rf (Option.map ad p0)] (PrC (dC, dI) ct ka ad st sz)) (va_Qv (fun (_ : Unit) => True) (fun _ => CB (dC, dI) ct ka ad st' (aC ad st sz)) (aC ad st sz)) (qn st' - qn st) (qs st' - qs st) (aC ad st sz) := by
  refine Met.ofW (cc := cJ0_init_81219) (maxL := 2) (ret := none) (by decide) rfl ?_
  intro p e s m args below meth c s₁ B hml hv
  obtain ⟨rfl, hsz, hw0, hK, hN, hZ, hC, hR, hL, hw1, hw2⟩ := hv
  have hx := B.exec
  have hb := B.bytes
  have hr := B.returns
  have hts := atoms_spec (ws := wq_J0_init_81219) B.pre
  have hown : s.vm.findClass RJ0 = some m.cls := findClass_of_methodNamed B.named
  subst hsz
  have hp : Cp (dC, dI) ka ad ct (aC ad st s.heap.size) s.heap st s.heap [] := ⟨fun i a b => ⟨hw0 i a b, Or.inl ⟨i, a, b, rfl⟩⟩, va_S.rf, hw1, hw2⟩
  generalize hAe : aC ad st s.heap.size = A at hp hZ hC ⊢
  have hA : ∀ q : Nat, s.heap.size ≤ q → A q := fun q h => by rw [← hAe]; exact Or.inr h
  have hl := lv_entry ([.ref (ad h0), va_rf (Option.map ad p0)]) (n := 2) (by simp [lg_sl, rf_cat, vc_i, vc_l, vc_r, vc_n])
  rw [lg_entry_eq]
  generalize (lg_sl ([.ref (ad h0), va_rf (Option.map ad p0)]) ++ List.replicate (2 - (lg_sl ([.ref (ad h0), va_rf (Option.map ad p0)])).length) Slot.unset).toArray = ls at hl ⊢
  have hl : lv_has ls 2 [(0, .ref (ad h0)), (1, va_rf (Option.map ad p0))] := by simpa [lv_args, rf_cat, vc_i, vc_l, vc_r, vc_n] using hl
  have hm : Mo st st := Mo.rf
  refine W.widen (k := qn st - qn st) (n := qs st - qs st) (Nat.zero_le _) (Nat.zero_le _) ?_
  refine W_blkA (fun (gs : CS) H locs ls => fJ0_init_81219_6 h0 gs = some st' ∧ Cp (dC, dI) ka ad ct A s.heap gs H locs ∧ lv_has ls 2 [] ∧ Mo st gs) (fun (gs : CS) ls => F0 m 6 ls []) (fun (gs : CS) => qn gs - qn st) (fun (gs : CS) => qs gs - qs st) ?_ (fun J6 => ?_)
  · intro u H locs ls hu
    obtain ⟨gs, rfl⟩ : ∃ z, z = u := ⟨_, rfl⟩
    obtain ⟨hf, hp, hl, hm⟩ := hu
    show W p l e _ s m _ below meth c _ _ (qn gs - qn st) (qs gs - qs st) _ (F0 m 6 ls [])
    unfold fJ0_init_81219_6 at hf
    have e2 := Option.some.inj hf
    refine W.widen (k := qn st' - qn st) (n := qs st' - qs st) (by rw [e2]; exact Nat.le_refl _) (by rw [e2]; exact Nat.le_refl _) ?_
    exact W.vret hx hb hr (fun t ht hW => ⟨⟨(), rfl, trivial, Cp.end e2 hp ht⟩, hp.2.1.F ht⟩) hp.2.1.2.2 dJ0_init_81219_6
  unfold fJ0_init_81219 at hf
  refine lv_aload_n hx hb dJ0_init_81219_0 rfl (lv_at hl 0 rfl) ?_
  refine o_aload_n hx hb dJ0_init_81219_1 rfl (lv_at hl 1 rfl) ?_
  refine lv_null hx hb dJ0_init_81219_2 ?_
  obtain ⟨hk_1, hf⟩ := gd_some hf
  obtain ⟨st_2, hc_3, hf⟩ := bnv_some hf
  have lthk_1 := hp.2.2.1.lt (i := h0) (by rw [hk_1]; decide)
  have hmc := (mo_J0_init_db425 h0 p0 none _ _ hc_3)
  have hmr := mo_J0_init_81219_6 h0  _ _ hf
  refine q_cv hp hA (va_runI (As := [va_rf (Option.map ad p0), .null]) (rest := []) ⟨hx, hb, hml, hown, hts⟩ (c_J0_init_db425 l dC dI ka ad ct h0 p0 none _ _ hc_3 _) (cwI 2 hts gq_J0_init_81219_J0_init_db425_489 rfl rfl rfl (hts (.initialized RJ0) (by decide +kernel)) (hts (.methodLink RJ0 489 yJ0_init_db425) (by decide +kernel)) (hts (.instanceMethod yJ0_init_db425) (by decide +kernel)) rfl (by decide +kernel) ⟨Nat.le_of_ble_eq_true rfl, Nat.le_of_ble_eq_true rfl⟩) ⟨PrC.blind _, q_pre hp hK hN hZ hC hR hL hA⟩ rfl rfl hl.1 rfl (lv_room (Nat.le_of_ble_eq_true rfl)) dJ0_init_81219_3 ⟨by show qn st - qn st + (qn st_2 - qn st) ≤ qn st' - qn st; have := hmr.1; have := hm.1; have := hmc.1; omega, by show qs st - qs st + (qs st_2 - qs st) ≤ qs st' - qs st; have := hmr.2.1; have := hm.2.1; have := hmc.2.1; omega⟩) (fun H locs hp => ?_)
  have hk_1 : qk st_2 h0 = 1 := ((mo_J0_init_db425 h0 p0 none _ _ hc_3).2.2 _ lthk_1).1.trans hk_1
  refine W.widen (k := qn st_2 - qn st) (n := qs st_2 - qs st) (by have := hm.1; have := hmc.1; omega) (by have := hm.2.1; have := hmc.2.1; omega) ?_
  have hm := hm.tr hmc
  exact J6 st_2 _ _ _ ⟨hf, hp, (lv_sub hl [] rfl), hm⟩
noncomputable def fJ4_toString_0e30d_8 (h0 : Nat)  (s0 : Option Nat) (gs : CS) : Option (Option Nat × CS) := some (s0, gs)
set_option maxHeartbeats 1000000 in
theorem mo_J4_toString_0e30d_8 (h0 : Nat)   (s0 : Option Nat) (gs : CS) (r : Option Nat) (st' : CS) (hf : fJ4_toString_0e30d_8 h0 s0 gs = some (r, st')) : Mo gs st' := by
  unfold fJ4_toString_0e30d_8 at hf
  have hm : Mo gs gs := Mo.rf
  obtain ⟨e1, e2⟩ := pr_some hf
  exact e2 ▸ hm
noncomputable def fJ4_toString_0e30d_3 (h0 : Nat)  (s0 : Option Nat) (gs : CS) : Option (Option Nat × CS) := ono s0 (fun a_1 => gd (qk gs a_1 = 1) (bnv (fJ0_init_81219 a_1 (some h0) gs) (fun st_4 => fJ4_toString_0e30d_8 h0 s0 st_4)))
set_option maxHeartbeats 1000000 in
theorem mo_J4_toString_0e30d_3 (h0 : Nat)   (s0 : Option Nat) (gs : CS) (r : Option Nat) (st' : CS) (hf : fJ4_toString_0e30d_3 h0 s0 gs = some (r, st')) : Mo gs st' := by
  unfold fJ4_toString_0e30d_3 at hf
  have hm : Mo gs gs := Mo.rf
  obtain ⟨a_1, ha_2, hf⟩ := ono_some hf
  obtain ⟨hk_3, hf⟩ := gd_some hf
  obtain ⟨st_4, hc_5, hf⟩ := bnv_some hf
  have hm := hm.tr (mo_J0_init_81219 a_1 (some h0) _ _ hc_5)
  exact hm.tr (mo_J4_toString_0e30d_8 h0 s0 st_4 _ _ hf)
noncomputable def fJ4_toString_0e30d (h0 : Nat) (st : CS) : Option (Option Nat × CS) := nam (wN st 1 0 4) (fun st_7 => fJ4_toString_0e30d_3 h0 (some (qn st)) st_7)
set_option maxHeartbeats 1000000 in
theorem mo_J4_toString_0e30d (h0 : Nat) (st : CS) (r : Option Nat) (st' : CS) (hf : fJ4_toString_0e30d h0 st = some (r, st')) : Mo st st' := by
  unfold fJ4_toString_0e30d at hf
  have hm : Mo st st := Mo.rf
  obtain ⟨st_7, est_7, hf⟩ := nam_some hf
  have hm := hm.wN est_7
  exact hm.tr (mo_J4_toString_0e30d_3 h0 (some (qn st)) st_7 _ _ hf)
def wq_J4_toString_0e30d : List Cond := .code yJ4_toString_0e30d cJ4_toString_0e30d 1 (some (.object "java/lang/String")) :: (([.instanceMethod yJ0_init_81219, .initialized RJ0, .methodLink RJ4 137 yJ0_init_81219, .classLink RJ4 18 RJ0, .instantiable RJ0 4, .code yJ0_init_81219 cJ0_init_81219 2 none, .instanceMethod yJ0_init_db425, .methodLink RJ0 489 yJ0_init_db425, .code yJ0_init_db425 cJ0_init_db425 5 none, .methodLink RJ0 1 objectInit, .instanceMethod objectInit, .code objectInit ⟨#[0xb1]⟩ 1 none, .fieldLink RJ0 15 "java/lang/String" "coder" "B", .fieldLink RJ0 9 "java/lang/String" "value" "[B", .methodLink RJ0 54 yJ7_copyOfRange_39247, .static yJ7_copyOfRange_39247, .initialized RJ7, .methodLink RJ0 1047 ⟨"java/lang/AbstractStringBuilder", "isLatin1", "()Z"⟩, .sameMethod "java/lang/AbstractStringBuilder" "java/lang/AbstractStringBuilder" "isLatin1" "()Z", .selects RJ4 ⟨"java/lang/AbstractStringBuilder", "isLatin1", "()Z"⟩ yJ5_isLatin1_aae02, .instanceMethod yJ5_isLatin1_aae02, .initialized RJ5, .methodLink RJ0 549 ⟨"java/lang/AbstractStringBuilder", "length", "()I"⟩, .sameMethod "java/lang/AbstractStringBuilder" "java/lang/AbstractStringBuilder" "length" "()I", .instanceMethod yJ5_length_8abf5, .selects RJ4 ⟨"java/lang/AbstractStringBuilder", "length", "()I"⟩ yJ4_length_8abf5, .instanceMethod yJ4_length_8abf5, .initialized RJ4, .methodLink RJ0 552 ⟨"java/lang/AbstractStringBuilder", "getValue", "()[B"⟩, .sameMethod "java/lang/AbstractStringBuilder" "java/lang/AbstractStringBuilder" "getValue" "()[B", .selects RJ4 ⟨"java/lang/AbstractStringBuilder", "getValue", "()[B"⟩ yJ5_getValue_6d5f1, .instanceMethod yJ5_getValue_6d5f1, .code yJ7_copyOfRange_39247 cJ7_copyOfRange_39247 3 (some (.array .byte)), .classLink RJ7 311 "[B", .methodLink RJ7 339 yJ7_copyOfRangeByte_39247, .static yJ7_copyOfRangeByte_39247, .methodLink RJ7 310 ⟨"[B", "clone", "()Ljava/lang/Object;"⟩, .sameMethod "[B" "java/lang/Object" "clone" "()Ljava/lang/Object;", .native ⟨"java/lang/Object", "clone", "()Ljava/lang/Object;"⟩, .instanceMethod ⟨"java/lang/Object", "clone", "()Ljava/lang/Object;"⟩, .selects "[B" ⟨"[B", "clone", "()Ljava/lang/Object;"⟩ ⟨"java/lang/Object", "clone", "()Ljava/lang/Object;"⟩, .code yJ7_copyOfRangeByte_39247 cJ7_copyOfRangeByte_39247 5 (some (.array .byte)), .methodLink RJ7 304 Lib.Math.min.name, .static Lib.Math.min.name, .initialized "java/lang/Math", .code Lib.Math.min.name Lib.Math.min.code 2 (some .int), .methodLink RJ7 150 arraycopyName, .native arraycopyName, .static arraycopyName, .initialized "java/lang/System", .arrayClass .byte, .methodLink RJ7 343 yJ7_checkLength_df160, .static yJ7_checkLength_df160, .code yJ7_checkLength_df160 cJ7_checkLength_df160 2 none, .code yJ5_isLatin1_aae02 cJ5_isLatin1_aae02 1 (some .boolean), .fieldLink RJ5 18 "java/lang/String" "COMPACT_STRINGS" "Z", .fieldLink RJ5 22 "java/lang/AbstractStringBuilder" "coder" "B", .code yJ4_length_8abf5 cJ4_length_8abf5 1 (some .int), .methodLink RJ4 343 yJ5_length_8abf5, .superclass RJ4 RJ5, .code yJ5_length_8abf5 cJ5_length_8abf5 1 (some .int), .fieldLink RJ5 79 "java/lang/AbstractStringBuilder" "count" "I", .code yJ5_getValue_6d5f1 cJ5_getValue_6d5f1 1 (some (.array .byte)), .fieldLink RJ5 15 "java/lang/AbstractStringBuilder" "value" "[B"] : List Cond) ++ wsJ00 ++ wsJ40)
theorem gs_wq_J4_toString_0e30d_wsJ00 : GoodIn wq_J4_toString_0e30d wsJ00 := fun w h => ⟨List.mem_cons_of_mem _ (List.mem_append_left _ (List.mem_append_right _ h)), (gt_wsJ00 w h).2⟩
theorem gs_wq_J4_toString_0e30d_wsJ40 : GoodIn wq_J4_toString_0e30d wsJ40 := fun w h => ⟨List.mem_cons_of_mem _ (List.mem_append_right _ h), (gt_wsJ40 w h).2⟩
set_option maxRecDepth 20000 in
theorem gq_J4_toString_0e30d_J0_init_81219_137 : GoodIn wq_J4_toString_0e30d (wq_J0_init_81219) := (goodIn_ca (goodIn_ca (goodIn_r _ [6, 7, 2, 8, 9, 10, 11, 12, 13, 14, 15, 16, 17, 18, 19, 20, 21, 22, 23, 24, 25, 26, 27, 28, 29, 30, 31, 32, 33, 34, 35, 36, 37, 38, 39, 40, 41, 42, 43, 44, 45, 46, 47, 48, 49, 50, 51, 52, 53, 54, 55, 56, 57, 58, 59, 60, 61, 62, 63, 64] rfl rfl) gs_wq_J4_toString_0e30d_wsJ00) gs_wq_J4_toString_0e30d_wsJ40)
set_option maxHeartbeats 4000000 in
set_option maxRecDepth 100000 in
theorem c_J4_toString_0e30d (l : Launch) (dC : Nat → ClassId) (dI : Nat → Nat → Nat) (ka ad : Nat → Nat) (ct : Nat → ClassId) (h0 : Nat) (st st' : CS) (r : Option Nat) (hf : fJ4_toString_0e30d h0 st = some (r, st')) (sz : Nat) : Met l yJ4_toString_0e30d wq_J4_toString_0e30d ({ frames := 5, cells := (qn st' - qn st), slots := (qs st' - qs st), locals := 151 }) (va_Pc [.ref (ad h0)] (PrC (dC, dI) ct ka ad st sz)) (va_Qq (fun r' (_ : Unit) => r' = Option.map ad r) (fun _ => CB (dC, dI) ct ka ad st' (aC ad st sz)) (aC ad st sz)) (qn st' - qn st) (qs st' - qs st) (aC ad st sz) := by
  refine Met.ofW (cc := cJ4_toString_0e30d) (maxL := 1) (ret := (some (.object "java/lang/String"))) (by decide) rfl ?_
  intro p e s m args below meth c s₁ B hml hv
  obtain ⟨rfl, hsz, hw0, hK, hN, hZ, hC, hR, hL, hw1, hw2⟩ := hv
  have hx := B.exec
  have hb := B.bytes
  have hr := B.returns
  have hts := atoms_spec (ws := wq_J4_toString_0e30d) B.pre
  have hown : s.vm.findClass RJ4 = some m.cls := findClass_of_methodNamed B.named
  have iRJ0 : ∀ w ∈ u_ws RJ0 TJ0 4, w ∈ wq_J4_toString_0e30d := fun w h => List.mem_cons_of_mem _ (List.mem_append_left _ (List.mem_append_right _ h))
  subst hsz
  have hp : Cp (dC, dI) ka ad ct (aC ad st s.heap.size) s.heap st s.heap [] := ⟨fun i a b => ⟨hw0 i a b, Or.inl ⟨i, a, b, rfl⟩⟩, va_S.rf, hw1, hw2⟩
  generalize hAe : aC ad st s.heap.size = A at hp hZ hC ⊢
  have hA : ∀ q : Nat, s.heap.size ≤ q → A q := fun q h => by rw [← hAe]; exact Or.inr h
  have hl := lv_entry ([.ref (ad h0)]) (n := 1) (Nat.le_of_ble_eq_true rfl)
  rw [lg_entry_eq]
  generalize (lg_sl ([.ref (ad h0)]) ++ List.replicate (1 - (lg_sl ([.ref (ad h0)])).length) Slot.unset).toArray = ls at hl ⊢
  have hl : lv_has ls 1 [(0, .ref (ad h0))] := hl
  have hm : Mo st st := Mo.rf
  refine W.widen (k := qn st - qn st) (n := qs st - qs st) (Nat.zero_le _) (Nat.zero_le _) ?_
  refine W_blkA (fun (u : (Option Nat) × CS) H locs ls => match u with | (s0, gs) => fJ4_toString_0e30d_8 h0 s0 gs = some (r, st') ∧ Cp (dC, dI) ka ad ct A s.heap gs H locs ∧ lv_has ls 1 [] ∧ Mo st gs) (fun (u : (Option Nat) × CS) ls => match u with | (s0, gs) => F0 m 8 ls [va_rf (Option.map ad s0)]) (fun (u : (Option Nat) × CS) => match u with | (s0, gs) => qn gs - qn st) (fun (u : (Option Nat) × CS) => match u with | (s0, gs) => qs gs - qs st) ?_ (fun J8 => ?_)
  · intro u H locs ls hu
    obtain ⟨s0, gs⟩ := u
    obtain ⟨hf, hp, hl, hm⟩ := hu
    show W p l e _ s m _ below meth c _ _ (qn gs - qn st) (qs gs - qs st) _ (F0 m 8 ls [va_rf (Option.map ad s0)])
    unfold fJ4_toString_0e30d_8 at hf
    obtain ⟨e1, e2⟩ := pr_some hf
    refine W.widen (k := qn st' - qn st) (n := qs st' - qs st) (by rw [e2]; exact Nat.le_refl _) (by rw [e2]; exact Nat.le_refl _) ?_
    exact W.aret (v := va_rf (Option.map ad s0)) hx hb hr (Or.inl ⟨_, rfl⟩) (rf_or _) (fun t ht hW => ⟨⟨Option.map ad s0, (), rfl, by rw [e1], Cp.end e2 hp ht⟩, hp.2.1.F ht⟩) hp.2.1.2.2 dJ4_toString_0e30d_8
  refine W_blkA (fun (u : (Option Nat) × CS) H locs ls => match u with | (s0, gs) => fJ4_toString_0e30d_3 h0 s0 gs = some (r, st') ∧ Cp (dC, dI) ka ad ct A s.heap gs H locs ∧ lv_has ls 1 [(0, .ref (ad h0))] ∧ Mo st gs) (fun (u : (Option Nat) × CS) ls => match u with | (s0, gs) => F0 m 3 ls [va_rf (Option.map ad s0)]) (fun (u : (Option Nat) × CS) => match u with | (s0, gs) => qn gs - qn st) (fun (u : (Option Nat) × CS) => match u with | (s0, gs) => qs gs - qs st) ?_ (fun J3 => ?_)
  · intro u H locs ls hu
    obtain ⟨s0, gs⟩ := u
    obtain ⟨hf, hp, hl, hm⟩ := hu
    show W p l e _ s m _ below meth c _ _ (qn gs - qn st) (qs gs - qs st) _ (F0 m 3 ls [va_rf (Option.map ad s0)])
    unfold fJ4_toString_0e30d_3 at hf
    refine lv_dup hx hb dJ4_toString_0e30d_3 (rf_cat _) ?_
    refine lv_aload_n hx hb dJ4_toString_0e30d_4 rfl (lv_at hl 0 rfl) ?_
    obtain ⟨a_1, ha_2, hf⟩ := ono_some hf
    refine o_at1 ha_2 ?_
    obtain ⟨hk_3, hf⟩ := gd_some hf
    obtain ⟨st_4, hc_5, hf⟩ := bnv_some hf
    have lthk_3 := hp.2.2.1.lt (i := a_1) (by rw [hk_3]; decide)
    have hmc := (mo_J0_init_81219 a_1 (some h0) _ _ hc_5)
    have hmr := mo_J4_toString_0e30d_8 h0 _ _ _ _ hf
    refine q_cv hp hA (va_runI (As := [.ref (ad h0)]) (rest := [va_rf (Option.map ad s0)]) ⟨hx, hb, hml, hown, hts⟩ (c_J0_init_81219 l dC dI ka ad ct a_1 (some h0) _ _ hc_5 _) (cwI 1 hts gq_J4_toString_0e30d_J0_init_81219_137 rfl rfl rfl (hts (.initialized RJ0) (by decide +kernel)) (hts (.methodLink RJ4 137 yJ0_init_81219) (by decide +kernel)) (hts (.instanceMethod yJ0_init_81219) (by decide +kernel)) rfl (by decide +kernel) ⟨Nat.le_of_ble_eq_true rfl, Nat.le_of_ble_eq_true rfl⟩) ⟨PrC.blind _, q_pre hp hK hN hZ hC hR hL hA⟩ rfl rfl hl.1 rfl (lv_room (by simp [rf_cat, vc_i, vc_l, vc_r, vc_n])) dJ4_toString_0e30d_5 ⟨by show qn gs - qn st + (qn st_4 - qn gs) ≤ qn st' - qn st; have := hmr.1; have := hm.1; have := hmc.1; omega, by show qs gs - qs st + (qs st_4 - qs gs) ≤ qs st' - qs st; have := hmr.2.1; have := hm.2.1; have := hmc.2.1; omega⟩) (fun H locs hp => ?_)
    have hk_3 : qk st_4 a_1 = 1 := ((mo_J0_init_81219 a_1 (some h0) _ _ hc_5).2.2 _ lthk_3).1.trans hk_3
    refine W.widen (k := qn st_4 - qn st) (n := qs st_4 - qs st) (by have := hm.1; have := hmc.1; omega) (by have := hm.2.1; have := hmc.2.1; omega) ?_
    have hm := hm.tr hmc
    exact J8 (s0, st_4) _ _ _ ⟨hf, hp, (lv_sub hl [] rfl), hm⟩
  unfold fJ4_toString_0e30d at hf
  obtain ⟨st_7, est_7, hf⟩ := nam_some hf
  have hmr := mo_J4_toString_0e30d_3 h0 _ _ _ _ hf
  refine q_new (ci := 0) (C := RJ0) (T := TJ0) (N := 4) hx hb hts iRJ0 tyJ0 tyJ0_ok hown (hts (.classLink RJ4 18 RJ0) (by decide +kernel)) (hts (.instantiable RJ0 4) (by decide +kernel)) (hts (.initialized RJ0) (by decide +kernel)) hK hp hA (by decide) rfl rfl dvJ0 (by show qn st - qn st + 1 ≤ qn st' - qn st; have := hmr.1; have := hm.1; have := (wN_n est_7).1; omega) (by show qs st - qs st + 4 ≤ qs st' - qs st; have := hmr.2.1; have := hm.2.1; have := (wN_n est_7).2; omega) dJ4_toString_0e30d_0 (fun H hp => ?_)
  rw [← est_7] at hp
  refine W.widen (k := qn st_7 - qn st) (n := qs st_7 - qs st) (by have := hm.1; have := (wN_n est_7).1; omega) (by have := hm.2.1; have := (wN_n est_7).2; omega) ?_
  have hm := hm.wN est_7
  exact J3 ((some (qn st)), st_7) _ _ _ ⟨hf, hp, (lv_sub hl [0] rfl), hm⟩
