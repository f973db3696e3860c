theorem dX6_takeDefault_0 : decode cX6_takeDefault 0 = .ok (.aload_n 0, 1) := by decide +kernel
theorem dX6_takeDefault_1 : decode cX6_takeDefault 1 = .ok (.invokevirtual 39, 3) := by decide +kernel
theorem dX6_takeDefault_12 : decode cX6_takeDefault 12 = .ok (.invokevirtual 150, 3) := by decide +kernel
theorem dX6_takeDefault_15 : decode cX6_takeDefault 15 = .ok (.bipush 61, 2) := by decide +kernel
theorem dX6_takeDefault_17 : decode cX6_takeDefault 17 = .ok (.if_icmp .ne 12, 3) := by decide +kernel
theorem dX6_takeDefault_20 : decode cX6_takeDefault 20 = .ok (.aload_n 1, 1) := by decide +kernel
theorem dX6_takeDefault_21 : decode cX6_takeDefault 21 = .ok (.getfield 132, 3) := by decide +kernel
theorem dX6_takeDefault_24 : decode cX6_takeDefault 24 = .ok (.bipush 6, 2) := by decide +kernel
theorem dX6_takeDefault_26 : decode cX6_takeDefault 26 = .ok (.if_icmp .ne 5, 3) := by decide +kernel
theorem dX6_takeDefault_29 : decode cX6_takeDefault 29 = .ok (.iconst 1, 1) := by decide +kernel
theorem dX6_takeDefault_30 : decode cX6_takeDefault 30 = .ok (.ireturn, 1) := by decide +kernel
theorem dX6_takeDefault_31 : decode cX6_takeDefault 31 = .ok (.aload_n 0, 1) := by decide +kernel
theorem dX6_takeDefault_32 : decode cX6_takeDefault 32 = .ok (.dup, 1) := by decide +kernel
theorem dX6_takeDefault_33 : decode cX6_takeDefault 33 = .ok (.getfield 26, 3) := by decide +kernel
theorem dX6_takeDefault_36 : decode cX6_takeDefault 36 = .ok (.iconst 1, 1) := by decide +kernel
theorem dX6_takeDefault_37 : decode cX6_takeDefault 37 = .ok (.iadd, 1) := by decide +kernel
theorem dX6_takeDefault_38 : decode cX6_takeDefault 38 = .ok (.putfield 26, 3) := by decide +kernel
theorem dX6_takeDefault_4 : decode cX6_takeDefault 4 = .ok (.aload_n 0, 1) := by decide +kernel
theorem dX6_takeDefault_41 : decode cX6_takeDefault 41 = .ok (.aload_n 0, 1) := by decide +kernel
theorem dX6_takeDefault_42 : decode cX6_takeDefault 42 = .ok (.invokevirtual 39, 3) := by decide +kernel
theorem dX6_takeDefault_45 : decode cX6_takeDefault 45 = .ok (.aload_n 1, 1) := by decide +kernel
theorem dX6_takeDefault_46 : decode cX6_takeDefault 46 = .ok (.getfield 132, 3) := by decide +kernel
theorem dX6_takeDefault_49 : decode cX6_takeDefault 49 = .ok (.iconst 5, 1) := by decide +kernel
theorem dX6_takeDefault_5 : decode cX6_takeDefault 5 = .ok (.getfield 9, 3) := by decide +kernel
theorem dX6_takeDefault_50 : decode cX6_takeDefault 50 = .ok (.if_icmp .ne 11, 3) := by decide +kernel
theorem dX6_takeDefault_53 : decode cX6_takeDefault 53 = .ok (.aload_n 0, 1) := by decide +kernel
theorem dX6_takeDefault_54 : decode cX6_takeDefault 54 = .ok (.aload_n 1, 1) := by decide +kernel
theorem dX6_takeDefault_55 : decode cX6_takeDefault 55 = .ok (.invokevirtual 153, 3) := by decide +kernel
theorem dX6_takeDefault_58 : decode cX6_takeDefault 58 = .ok (.goto 8, 3) := by decide +kernel
theorem dX6_takeDefault_61 : decode cX6_takeDefault 61 = .ok (.aload_n 0, 1) := by decide +kernel
theorem dX6_takeDefault_62 : decode cX6_takeDefault 62 = .ok (.aload_n 1, 1) := by decide +kernel
theorem dX6_takeDefault_63 : decode cX6_takeDefault 63 = .ok (.invokevirtual 156, 3) := by decide +kernel
theorem dX6_takeDefault_66 : decode cX6_takeDefault 66 = .ok (.ireturn, 1) := by decide +kernel
theorem dX6_takeDefault_8 : decode cX6_takeDefault 8 = .ok (.aload_n 0, 1) := by decide +kernel
theorem dX6_takeDefault_9 : decode cX6_takeDefault 9 = .ok (.getfield 26, 3) := by decide +kernel
theorem dX6_takeField_0 : decode cX6_takeField 0 = .ok (.new 56, 3) := by decide +kernel
theorem dX6_takeField_10 : decode cX6_takeField 10 = .ok (.aload_n 2, 1) := by decide +kernel
theorem dX6_takeField_11 : decode cX6_takeField 11 = .ok (.invokevirtual 59, 3) := by decide +kernel
theorem dX6_takeField_14 : decode cX6_takeField 14 = .ok (.ifCond .eq 12, 3) := by decide +kernel
theorem dX6_takeField_17 : decode cX6_takeField 17 = .ok (.aload_n 0, 1) := by decide +kernel
theorem dX6_takeField_18 : decode cX6_takeField 18 = .ok (.aload_n 3, 1) := by decide +kernel
theorem dX6_takeField_19 : decode cX6_takeField 19 = .ok (.aload_n 2, 1) := by decide +kernel
theorem dX6_takeField_20 : decode cX6_takeField 20 = .ok (.invokevirtual 63, 3) := by decide +kernel
theorem dX6_takeField_23 : decode cX6_takeField 23 = .ok (.ifCond .ne 5, 3) := by decide +kernel
theorem dX6_takeField_26 : decode cX6_takeField 26 = .ok (.iconst 0, 1) := by decide +kernel
theorem dX6_takeField_27 : decode cX6_takeField 27 = .ok (.ireturn, 1) := by decide +kernel
theorem dX6_takeField_28 : decode cX6_takeField 28 = .ok (.aload_n 3, 1) := by decide +kernel
theorem dX6_takeField_29 : decode cX6_takeField 29 = .ok (.getfield 66, 3) := by decide +kernel
theorem dX6_takeField_3 : decode cX6_takeField 3 = .ok (.dup, 1) := by decide +kernel
theorem dX6_takeField_32 : decode cX6_takeField 32 = .ok (.invokevirtual 70, 3) := by decide +kernel
theorem dX6_takeField_35 : decode cX6_takeField 35 = .ok (.istore 4, 2) := by decide +kernel
theorem dX6_takeField_37 : decode cX6_takeField 37 = .ok (.iload 4, 2) := by decide +kernel
theorem dX6_takeField_39 : decode cX6_takeField 39 = .ok (.ifCond .ne 28, 3) := by decide +kernel
theorem dX6_takeField_4 : decode cX6_takeField 4 = .ok (.invokespecial 58, 3) := by decide +kernel
theorem dX6_takeField_42 : decode cX6_takeField 42 = .ok (.aload_n 0, 1) := by decide +kernel
theorem dX6_takeField_43 : decode cX6_takeField 43 = .ok (.aload_n 3, 1) := by decide +kernel
theorem dX6_takeField_44 : decode cX6_takeField 44 = .ok (.iload_n 1, 1) := by decide +kernel
theorem dX6_takeField_45 : decode cX6_takeField 45 = .ok (.invokevirtual 76, 3) := by decide +kernel
theorem dX6_takeField_48 : decode cX6_takeField 48 = .ok (.ifCond .eq 23, 3) := by decide +kernel
theorem dX6_takeField_51 : decode cX6_takeField 51 = .ok (.aload_n 0, 1) := by decide +kernel
theorem dX6_takeField_52 : decode cX6_takeField 52 = .ok (.aload_n 3, 1) := by decide +kernel
theorem dX6_takeField_53 : decode cX6_takeField 53 = .ok (.invokevirtual 80, 3) := by decide +kernel
theorem dX6_takeField_56 : decode cX6_takeField 56 = .ok (.ifCond .eq 15, 3) := by decide +kernel
theorem dX6_takeField_59 : decode cX6_takeField 59 = .ok (.aload_n 0, 1) := by decide +kernel
theorem dX6_takeField_60 : decode cX6_takeField 60 = .ok (.aload_n 3, 1) := by decide +kernel
theorem dX6_takeField_61 : decode cX6_takeField 61 = .ok (.invokevirtual 84, 3) := by decide +kernel
theorem dX6_takeField_64 : decode cX6_takeField 64 = .ok (.ifCond .eq 7, 3) := by decide +kernel
theorem dX6_takeField_67 : decode cX6_takeField 67 = .ok (.iconst 1, 1) := by decide +kernel
theorem dX6_takeField_68 : decode cX6_takeField 68 = .ok (.goto 4, 3) := by decide +kernel
theorem dX6_takeField_7 : decode cX6_takeField 7 = .ok (.astore_n 3, 1) := by decide +kernel
theorem dX6_takeField_71 : decode cX6_takeField 71 = .ok (.iconst 0, 1) := by decide +kernel
theorem dX6_takeField_72 : decode cX6_takeField 72 = .ok (.istore 5, 2) := by decide +kernel
theorem dX6_takeField_74 : decode cX6_takeField 74 = .ok (.iload 5, 2) := by decide +kernel
theorem dX6_takeField_76 : decode cX6_takeField 76 = .ok (.ifCond .eq 22, 3) := by decide +kernel
theorem dX6_takeField_79 : decode cX6_takeField 79 = .ok (.aload_n 0, 1) := by decide +kernel
theorem dX6_takeField_8 : decode cX6_takeField 8 = .ok (.aload_n 0, 1) := by decide +kernel
theorem dX6_takeField_80 : decode cX6_takeField 80 = .ok (.invokevirtual 87, 3) := by decide +kernel
theorem dX6_takeField_83 : decode cX6_takeField 83 = .ok (.ifCond .eq 15, 3) := by decide +kernel
theorem dX6_takeField_86 : decode cX6_takeField 86 = .ok (.aload_n 2, 1) := by decide +kernel
theorem dX6_takeField_87 : decode cX6_takeField 87 = .ok (.aload_n 3, 1) := by decide +kernel
theorem dX6_takeField_88 : decode cX6_takeField 88 = .ok (.invokevirtual 90, 3) := by decide +kernel
theorem dX6_takeField_9 : decode cX6_takeField 9 = .ok (.aload_n 3, 1) := by decide +kernel
theorem dX6_takeField_91 : decode cX6_takeField 91 = .ok (.ifCond .eq 7, 3) := by decide +kernel
theorem dX6_takeField_94 : decode cX6_takeField 94 = .ok (.iconst 1, 1) := by decide +kernel
theorem dX6_takeField_95 : decode cX6_takeField 95 = .ok (.goto 4, 3) := by decide +kernel
theorem dX6_takeField_98 : decode cX6_takeField 98 = .ok (.iconst 0, 1) := by decide +kernel
theorem dX6_takeField_99 : decode cX6_takeField 99 = .ok (.ireturn, 1) := by decide +kernel
theorem dX6_takeGroup_0 : decode cX6_takeGroup 0 = .ok (.aload_n 0, 1) := by decide +kernel
theorem dX6_takeGroup_1 : decode cX6_takeGroup 1 = .ok (.invokevirtual 39, 3) := by decide +kernel
theorem dX6_takeGroup_100 : decode cX6_takeGroup 100 = .ok (.aload_n 0, 1) := by decide +kernel
theorem dX6_takeGroup_101 : decode cX6_takeGroup 101 = .ok (.dup, 1) := by decide +kernel
theorem dX6_takeGroup_102 : decode cX6_takeGroup 102 = .ok (.getfield 26, 3) := by decide +kernel
theorem dX6_takeGroup_105 : decode cX6_takeGroup 105 = .ok (.iconst 1, 1) := by decide +kernel
theorem dX6_takeGroup_106 : decode cX6_takeGroup 106 = .ok (.iadd, 1) := by decide +kernel
theorem dX6_takeGroup_107 : decode cX6_takeGroup 107 = .ok (.putfield 26, 3) := by decide +kernel
theorem dX6_takeGroup_110 : decode cX6_takeGroup 110 = .ok (.iconst 1, 1) := by decide +kernel
theorem dX6_takeGroup_111 : decode cX6_takeGroup 111 = .ok (.ireturn, 1) := by decide +kernel
theorem dX6_takeGroup_12 : decode cX6_takeGroup 12 = .ok (.ifCond .ne 5, 3) := by decide +kernel
theorem dX6_takeGroup_15 : decode cX6_takeGroup 15 = .ok (.iconst 1, 1) := by decide +kernel
theorem dX6_takeGroup_16 : decode cX6_takeGroup 16 = .ok (.ireturn, 1) := by decide +kernel
theorem dX6_takeGroup_17 : decode cX6_takeGroup 17 = .ok (.aload_n 0, 1) := by decide +kernel
theorem dX6_takeGroup_18 : decode cX6_takeGroup 18 = .ok (.getfield 26, 3) := by decide +kernel
theorem dX6_takeGroup_21 : decode cX6_takeGroup 21 = .ok (.istore_n 2, 1) := by decide +kernel
theorem dX6_takeGroup_22 : decode cX6_takeGroup 22 = .ok (.aload_n 0, 1) := by decide +kernel
theorem dX6_takeGroup_23 : decode cX6_takeGroup 23 = .ok (.invokevirtual 111, 3) := by decide +kernel
theorem dX6_takeGroup_26 : decode cX6_takeGroup 26 = .ok (.ldc 145, 2) := by decide +kernel
theorem dX6_takeGroup_28 : decode cX6_takeGroup 28 = .ok (.invokevirtual 120, 3) := by decide +kernel
theorem dX6_takeGroup_31 : decode cX6_takeGroup 31 = .ok (.ifCond .ne 10, 3) := by decide +kernel
theorem dX6_takeGroup_34 : decode cX6_takeGroup 34 = .ok (.aload_n 0, 1) := by decide +kernel
theorem dX6_takeGroup_35 : decode cX6_takeGroup 35 = .ok (.iconst 1, 1) := by decide +kernel
theorem dX6_takeGroup_36 : decode cX6_takeGroup 36 = .ok (.iload_n 2, 1) := by decide +kernel
theorem dX6_takeGroup_37 : decode cX6_takeGroup 37 = .ok (.invokevirtual 48, 3) := by decide +kernel
theorem dX6_takeGroup_4 : decode cX6_takeGroup 4 = .ok (.aload_n 0, 1) := by decide +kernel
theorem dX6_takeGroup_40 : decode cX6_takeGroup 40 = .ok (.ireturn, 1) := by decide +kernel
theorem dX6_takeGroup_41 : decode cX6_takeGroup 41 = .ok (.aload_n 0, 1) := by decide +kernel
theorem dX6_takeGroup_42 : decode cX6_takeGroup 42 = .ok (.aload_n 0, 1) := by decide +kernel
theorem dX6_takeGroup_43 : decode cX6_takeGroup 43 = .ok (.getfield 26, 3) := by decide +kernel
theorem dX6_takeGroup_46 : decode cX6_takeGroup 46 = .ok (.invokevirtual 93, 3) := by decide +kernel
theorem dX6_takeGroup_49 : decode cX6_takeGroup 49 = .ok (.ifCond .eq 13, 3) := by decide +kernel
theorem dX6_takeGroup_5 : decode cX6_takeGroup 5 = .ok (.aload_n 0, 1) := by decide +kernel
theorem dX6_takeGroup_52 : decode cX6_takeGroup 52 = .ok (.aload_n 0, 1) := by decide +kernel
theorem dX6_takeGroup_53 : decode cX6_takeGroup 53 = .ok (.iconst 1, 1) := by decide +kernel
theorem dX6_takeGroup_54 : decode cX6_takeGroup 54 = .ok (.aload_n 0, 1) := by decide +kernel
theorem dX6_takeGroup_55 : decode cX6_takeGroup 55 = .ok (.getfield 26, 3) := by decide +kernel
theorem dX6_takeGroup_58 : decode cX6_takeGroup 58 = .ok (.invokevirtual 48, 3) := by decide +kernel
theorem dX6_takeGroup_6 : decode cX6_takeGroup 6 = .ok (.getfield 26, 3) := by decide +kernel
theorem dX6_takeGroup_61 : decode cX6_takeGroup 61 = .ok (.ireturn, 1) := by decide +kernel
theorem dX6_takeGroup_62 : decode cX6_takeGroup 62 = .ok (.aload_n 0, 1) := by decide +kernel
theorem dX6_takeGroup_63 : decode cX6_takeGroup 63 = .ok (.invokevirtual 39, 3) := by decide +kernel
theorem dX6_takeGroup_66 : decode cX6_takeGroup 66 = .ok (.aload_n 0, 1) := by decide +kernel
theorem dX6_takeGroup_67 : decode cX6_takeGroup 67 = .ok (.aload_n 0, 1) := by decide +kernel
theorem dX6_takeGroup_68 : decode cX6_takeGroup 68 = .ok (.getfield 26, 3) := by decide +kernel
theorem dX6_takeGroup_71 : decode cX6_takeGroup 71 = .ok (.invokevirtual 97, 3) := by decide +kernel
theorem dX6_takeGroup_74 : decode cX6_takeGroup 74 = .ok (.istore_n 3, 1) := by decide +kernel
theorem dX6_takeGroup_75 : decode cX6_takeGroup 75 = .ok (.iload_n 3, 1) := by decide +kernel
theorem dX6_takeGroup_76 : decode cX6_takeGroup 76 = .ok (.iconst 1, 1) := by decide +kernel
theorem dX6_takeGroup_77 : decode cX6_takeGroup 77 = .ok (.if_icmp .lt 8, 3) := by decide +kernel
theorem dX6_takeGroup_80 : decode cX6_takeGroup 80 = .ok (.iload_n 3, 1) := by decide +kernel
theorem dX6_takeGroup_81 : decode cX6_takeGroup 81 = .ok (.iconst 3, 1) := by decide +kernel
theorem dX6_takeGroup_82 : decode cX6_takeGroup 82 = .ok (.if_icmp .le 13, 3) := by decide +kernel
theorem dX6_takeGroup_85 : decode cX6_takeGroup 85 = .ok (.aload_n 0, 1) := by decide +kernel
theorem dX6_takeGroup_86 : decode cX6_takeGroup 86 = .ok (.iconst 1, 1) := by decide +kernel
theorem dX6_takeGroup_87 : decode cX6_takeGroup 87 = .ok (.aload_n 0, 1) := by decide +kernel
theorem dX6_takeGroup_88 : decode cX6_takeGroup 88 = .ok (.getfield 26, 3) := by decide +kernel
theorem dX6_takeGroup_9 : decode cX6_takeGroup 9 = .ok (.invokevirtual 108, 3) := by decide +kernel
theorem dX6_takeGroup_91 : decode cX6_takeGroup 91 = .ok (.invokevirtual 48, 3) := by decide +kernel
theorem dX6_takeGroup_94 : decode cX6_takeGroup 94 = .ok (.ireturn, 1) := by decide +kernel
theorem dX6_takeGroup_95 : decode cX6_takeGroup 95 = .ok (.aload_n 1, 1) := by decide +kernel
theorem dX6_takeGroup_96 : decode cX6_takeGroup 96 = .ok (.iload_n 3, 1) := by decide +kernel
theorem dX6_takeGroup_97 : decode cX6_takeGroup 97 = .ok (.putfield 147, 3) := by decide +kernel
theorem dX6_takeKind_0 : decode cX6_takeKind 0 = .ok (.aload_n 0, 1) := by decide +kernel
theorem dX6_takeKind_1 : decode cX6_takeKind 1 = .ok (.invokevirtual 39, 3) := by decide +kernel
theorem dX6_takeKind_10 : decode cX6_takeKind 10 = .ok (.aload_n 0, 1) := by decide +kernel
theorem dX6_takeKind_11 : decode cX6_takeKind 11 = .ok (.invokevirtual 111, 3) := by decide +kernel
theorem dX6_takeKind_14 : decode cX6_takeKind 14 = .ok (.invokestatic 124, 3) := by decide +kernel
theorem dX6_takeKind_17 : decode cX6_takeKind 17 = .ok (.putfield 132, 3) := by decide +kernel
theorem dX6_takeKind_20 : decode cX6_takeKind 20 = .ok (.aload_n 1, 1) := by decide +kernel
theorem dX6_takeKind_21 : decode cX6_takeKind 21 = .ok (.getfield 132, 3) := by decide +kernel
theorem dX6_takeKind_24 : decode cX6_takeKind 24 = .ok (.ifCond .ne 10, 3) := by decide +kernel
theorem dX6_takeKind_27 : decode cX6_takeKind 27 = .ok (.aload_n 0, 1) := by decide +kernel
theorem dX6_takeKind_28 : decode cX6_takeKind 28 = .ok (.iconst 1, 1) := by decide +kernel
theorem dX6_takeKind_29 : decode cX6_takeKind 29 = .ok (.iload_n 3, 1) := by decide +kernel
theorem dX6_takeKind_30 : decode cX6_takeKind 30 = .ok (.invokevirtual 48, 3) := by decide +kernel
theorem dX6_takeKind_33 : decode cX6_takeKind 33 = .ok (.ireturn, 1) := by decide +kernel
theorem dX6_takeKind_34 : decode cX6_takeKind 34 = .ok (.aload_n 1, 1) := by decide +kernel
theorem dX6_takeKind_35 : decode cX6_takeKind 35 = .ok (.getfield 132, 3) := by decide +kernel
theorem dX6_takeKind_38 : decode cX6_takeKind 38 = .ok (.bipush 6, 2) := by decide +kernel
theorem dX6_takeKind_4 : decode cX6_takeKind 4 = .ok (.aload_n 0, 1) := by decide +kernel
theorem dX6_takeKind_40 : decode cX6_takeKind 40 = .ok (.if_icmp .ne 12, 3) := by decide +kernel
theorem dX6_takeKind_43 : decode cX6_takeKind 43 = .ok (.aload_n 0, 1) := by decide +kernel
theorem dX6_takeKind_44 : decode cX6_takeKind 44 = .ok (.aload_n 1, 1) := by decide +kernel
theorem dX6_takeKind_45 : decode cX6_takeKind 45 = .ok (.iload_n 2, 1) := by decide +kernel
theorem dX6_takeKind_46 : decode cX6_takeKind 46 = .ok (.invokevirtual 135, 3) := by decide +kernel
theorem dX6_takeKind_49 : decode cX6_takeKind 49 = .ok (.ifCond .eq 7, 3) := by decide +kernel
theorem dX6_takeKind_5 : decode cX6_takeKind 5 = .ok (.getfield 26, 3) := by decide +kernel
theorem dX6_takeKind_52 : decode cX6_takeKind 52 = .ok (.iconst 1, 1) := by decide +kernel
theorem dX6_takeKind_53 : decode cX6_takeKind 53 = .ok (.goto 4, 3) := by decide +kernel
theorem dX6_takeKind_56 : decode cX6_takeKind 56 = .ok (.iconst 0, 1) := by decide +kernel
theorem dX6_takeKind_57 : decode cX6_takeKind 57 = .ok (.ireturn, 1) := by decide +kernel
theorem dX6_takeKind_8 : decode cX6_takeKind 8 = .ok (.istore_n 3, 1) := by decide +kernel
theorem dX6_takeKind_9 : decode cX6_takeKind 9 = .ok (.aload_n 1, 1) := by decide +kernel
theorem dX6_takeName_0 : decode cX6_takeName 0 = .ok (.aload_n 0, 1) := by decide +kernel
theorem dX6_takeName_1 : decode cX6_takeName 1 = .ok (.invokevirtual 39, 3) := by decide +kernel
theorem dX6_takeName_10 : decode cX6_takeName 10 = .ok (.invokevirtual 111, 3) := by decide +kernel
theorem dX6_takeName_100 : decode cX6_takeName 100 = .ok (.ireturn, 1) := by decide +kernel
theorem dX6_takeName_13 : decode cX6_takeName 13 = .ok (.astore 4, 2) := by decide +kernel
theorem dX6_takeName_15 : decode cX6_takeName 15 = .ok (.aload 4, 2) := by decide +kernel
theorem dX6_takeName_17 : decode cX6_takeName 17 = .ok (.invokevirtual 70, 3) := by decide +kernel
theorem dX6_takeName_20 : decode cX6_takeName 20 = .ok (.ifCond .eq 10, 3) := by decide +kernel
theorem dX6_takeName_23 : decode cX6_takeName 23 = .ok (.aload_n 0, 1) := by decide +kernel
theorem dX6_takeName_24 : decode cX6_takeName 24 = .ok (.iconst 1, 1) := by decide +kernel
theorem dX6_takeName_25 : decode cX6_takeName 25 = .ok (.iload_n 3, 1) := by decide +kernel
theorem dX6_takeName_26 : decode cX6_takeName 26 = .ok (.invokevirtual 48, 3) := by decide +kernel
theorem dX6_takeName_29 : decode cX6_takeName 29 = .ok (.ireturn, 1) := by decide +kernel
theorem dX6_takeName_30 : decode cX6_takeName 30 = .ok (.aload 4, 2) := by decide +kernel
theorem dX6_takeName_32 : decode cX6_takeName 32 = .ok (.invokevirtual 115, 3) := by decide +kernel
theorem dX6_takeName_35 : decode cX6_takeName 35 = .ok (.bipush 8, 2) := by decide +kernel
theorem dX6_takeName_37 : decode cX6_takeName 37 = .ok (.if_icmp .le 13, 3) := by decide +kernel
theorem dX6_takeName_4 : decode cX6_takeName 4 = .ok (.aload_n 0, 1) := by decide +kernel
theorem dX6_takeName_40 : decode cX6_takeName 40 = .ok (.aload_n 0, 1) := by decide +kernel
theorem dX6_takeName_41 : decode cX6_takeName 41 = .ok (.iconst 1, 1) := by decide +kernel
theorem dX6_takeName_42 : decode cX6_takeName 42 = .ok (.iload_n 3, 1) := by decide +kernel
theorem dX6_takeName_43 : decode cX6_takeName 43 = .ok (.bipush 8, 2) := by decide +kernel
theorem dX6_takeName_45 : decode cX6_takeName 45 = .ok (.iadd, 1) := by decide +kernel
theorem dX6_takeName_46 : decode cX6_takeName 46 = .ok (.invokevirtual 48, 3) := by decide +kernel
theorem dX6_takeName_49 : decode cX6_takeName 49 = .ok (.ireturn, 1) := by decide +kernel
theorem dX6_takeName_5 : decode cX6_takeName 5 = .ok (.getfield 26, 3) := by decide +kernel
theorem dX6_takeName_50 : decode cX6_takeName 50 = .ok (.aload 4, 2) := by decide +kernel
theorem dX6_takeName_52 : decode cX6_takeName 52 = .ok (.ldc 118, 2) := by decide +kernel
theorem dX6_takeName_54 : decode cX6_takeName 54 = .ok (.invokevirtual 120, 3) := by decide +kernel
theorem dX6_takeName_57 : decode cX6_takeName 57 = .ok (.ifCond .eq 5, 3) := by decide +kernel
theorem dX6_takeName_60 : decode cX6_takeName 60 = .ok (.iconst 1, 1) := by decide +kernel
theorem dX6_takeName_61 : decode cX6_takeName 61 = .ok (.ireturn, 1) := by decide +kernel
theorem dX6_takeName_62 : decode cX6_takeName 62 = .ok (.aload 4, 2) := by decide +kernel
theorem dX6_takeName_64 : decode cX6_takeName 64 = .ok (.invokestatic 124, 3) := by decide +kernel
theorem dX6_takeName_67 : decode cX6_takeName 67 = .ok (.ifCond .eq 10, 3) := by decide +kernel
theorem dX6_takeName_70 : decode cX6_takeName 70 = .ok (.aload_n 0, 1) := by decide +kernel
theorem dX6_takeName_71 : decode cX6_takeName 71 = .ok (.iconst 1, 1) := by decide +kernel
theorem dX6_takeName_72 : decode cX6_takeName 72 = .ok (.iload_n 3, 1) := by decide +kernel
theorem dX6_takeName_73 : decode cX6_takeName 73 = .ok (.invokevirtual 48, 3) := by decide +kernel
theorem dX6_takeName_76 : decode cX6_takeName 76 = .ok (.ireturn, 1) := by decide +kernel
theorem dX6_takeName_77 : decode cX6_takeName 77 = .ok (.aload_n 2, 1) := by decide +kernel
theorem dX6_takeName_78 : decode cX6_takeName 78 = .ok (.aload 4, 2) := by decide +kernel
theorem dX6_takeName_8 : decode cX6_takeName 8 = .ok (.istore_n 3, 1) := by decide +kernel
theorem dX6_takeName_80 : decode cX6_takeName 80 = .ok (.invokevirtual 128, 3) := by decide +kernel
theorem dX6_takeName_83 : decode cX6_takeName 83 = .ok (.ifCond .eq 10, 3) := by decide +kernel
theorem dX6_takeName_86 : decode cX6_takeName 86 = .ok (.aload_n 0, 1) := by decide +kernel
theorem dX6_takeName_87 : decode cX6_takeName 87 = .ok (.iconst 3, 1) := by decide +kernel
theorem dX6_takeName_88 : decode cX6_takeName 88 = .ok (.iload_n 3, 1) := by decide +kernel
theorem dX6_takeName_89 : decode cX6_takeName 89 = .ok (.invokevirtual 48, 3) := by decide +kernel
theorem dX6_takeName_9 : decode cX6_takeName 9 = .ok (.aload_n 0, 1) := by decide +kernel
theorem dX6_takeName_92 : decode cX6_takeName 92 = .ok (.ireturn, 1) := by decide +kernel
theorem dX6_takeName_93 : decode cX6_takeName 93 = .ok (.aload_n 1, 1) := by decide +kernel
theorem dX6_takeName_94 : decode cX6_takeName 94 = .ok (.aload 4, 2) := by decide +kernel
theorem dX6_takeName_96 : decode cX6_takeName 96 = .ok (.putfield 66, 3) := by decide +kernel
theorem dX6_takeName_99 : decode cX6_takeName 99 = .ok (.iconst 1, 1) := by decide +kernel
theorem dX6_takeText_0 : decode cX6_takeText 0 = .ok (.aload_n 0, 1) := by decide +kernel
theorem dX6_takeText_1 : decode cX6_takeText 1 = .ok (.getfield 9, 3) := by decide +kernel
theorem dX6_takeText_102 : decode cX6_takeText 102 = .ok (.goto (-56), 3) := by decide +kernel
theorem dX6_takeText_105 : decode cX6_takeText 105 = .ok (.aload_n 0, 1) := by decide +kernel
theorem dX6_takeText_106 : decode cX6_takeText 106 = .ok (.getfield 9, 3) := by decide +kernel
theorem dX6_takeText_109 : decode cX6_takeText 109 = .ok (.aload_n 0, 1) := by decide +kernel
theorem dX6_takeText_11 : decode cX6_takeText 11 = .ok (.bipush 34, 2) := by decide +kernel
theorem dX6_takeText_110 : decode cX6_takeText 110 = .ok (.getfield 26, 3) := by decide +kernel
theorem dX6_takeText_113 : decode cX6_takeText 113 = .ok (.invokevirtual 150, 3) := by decide +kernel
theorem dX6_takeText_116 : decode cX6_takeText 116 = .ok (.bipush 34, 2) := by decide +kernel
theorem dX6_takeText_118 : decode cX6_takeText 118 = .ok (.if_icmp .eq 13, 3) := by decide +kernel
theorem dX6_takeText_121 : decode cX6_takeText 121 = .ok (.aload_n 0, 1) := by decide +kernel
theorem dX6_takeText_122 : decode cX6_takeText 122 = .ok (.iconst 1, 1) := by decide +kernel
theorem dX6_takeText_123 : decode cX6_takeText 123 = .ok (.aload_n 0, 1) := by decide +kernel
theorem dX6_takeText_124 : decode cX6_takeText 124 = .ok (.getfield 26, 3) := by decide +kernel
theorem dX6_takeText_127 : decode cX6_takeText 127 = .ok (.invokevirtual 48, 3) := by decide +kernel
theorem dX6_takeText_13 : decode cX6_takeText 13 = .ok (.if_icmp .eq 13, 3) := by decide +kernel
theorem dX6_takeText_130 : decode cX6_takeText 130 = .ok (.ireturn, 1) := by decide +kernel
theorem dX6_takeText_131 : decode cX6_takeText 131 = .ok (.aload_n 0, 1) := by decide +kernel
theorem dX6_takeText_132 : decode cX6_takeText 132 = .ok (.dup, 1) := by decide +kernel
theorem dX6_takeText_133 : decode cX6_takeText 133 = .ok (.getfield 26, 3) := by decide +kernel
theorem dX6_takeText_136 : decode cX6_takeText 136 = .ok (.iconst 1, 1) := by decide +kernel
theorem dX6_takeText_137 : decode cX6_takeText 137 = .ok (.iadd, 1) := by decide +kernel
theorem dX6_takeText_138 : decode cX6_takeText 138 = .ok (.putfield 26, 3) := by decide +kernel
theorem dX6_takeText_141 : decode cX6_takeText 141 = .ok (.aload_n 1, 1) := by decide +kernel
theorem dX6_takeText_142 : decode cX6_takeText 142 = .ok (.aload_n 0, 1) := by decide +kernel
theorem dX6_takeText_143 : decode cX6_takeText 143 = .ok (.getfield 22, 3) := by decide +kernel
theorem dX6_takeText_146 : decode cX6_takeText 146 = .ok (.invokevirtual 182, 3) := by decide +kernel
theorem dX6_takeText_149 : decode cX6_takeText 149 = .ok (.putfield 185, 3) := by decide +kernel
theorem dX6_takeText_152 : decode cX6_takeText 152 = .ok (.iconst 1, 1) := by decide +kernel
theorem dX6_takeText_153 : decode cX6_takeText 153 = .ok (.ireturn, 1) := by decide +kernel
theorem dX6_takeText_16 : decode cX6_takeText 16 = .ok (.aload_n 0, 1) := by decide +kernel
theorem dX6_takeText_17 : decode cX6_takeText 17 = .ok (.iconst 1, 1) := by decide +kernel
theorem dX6_takeText_18 : decode cX6_takeText 18 = .ok (.aload_n 0, 1) := by decide +kernel
theorem dX6_takeText_19 : decode cX6_takeText 19 = .ok (.getfield 26, 3) := by decide +kernel
theorem dX6_takeText_22 : decode cX6_takeText 22 = .ok (.invokevirtual 48, 3) := by decide +kernel
theorem dX6_takeText_25 : decode cX6_takeText 25 = .ok (.ireturn, 1) := by decide +kernel
theorem dX6_takeText_26 : decode cX6_takeText 26 = .ok (.aload_n 0, 1) := by decide +kernel
theorem dX6_takeText_27 : decode cX6_takeText 27 = .ok (.dup, 1) := by decide +kernel
theorem dX6_takeText_28 : decode cX6_takeText 28 = .ok (.getfield 26, 3) := by decide +kernel
theorem dX6_takeText_31 : decode cX6_takeText 31 = .ok (.iconst 1, 1) := by decide +kernel
theorem dX6_takeText_32 : decode cX6_takeText 32 = .ok (.iadd, 1) := by decide +kernel
theorem dX6_takeText_33 : decode cX6_takeText 33 = .ok (.putfield 26, 3) := by decide +kernel
theorem dX6_takeText_36 : decode cX6_takeText 36 = .ok (.aload_n 0, 1) := by decide +kernel
theorem dX6_takeText_37 : decode cX6_takeText 37 = .ok (.getfield 22, 3) := by decide +kernel
theorem dX6_takeText_4 : decode cX6_takeText 4 = .ok (.aload_n 0, 1) := by decide +kernel
theorem dX6_takeText_40 : decode cX6_takeText 40 = .ok (.iconst 0, 1) := by decide +kernel
theorem dX6_takeText_41 : decode cX6_takeText 41 = .ok (.invokevirtual 171, 3) := by decide +kernel
theorem dX6_takeText_44 : decode cX6_takeText 44 = .ok (.iconst 0, 1) := by decide +kernel
theorem dX6_takeText_45 : decode cX6_takeText 45 = .ok (.istore_n 2, 1) := by decide +kernel
theorem dX6_takeText_46 : decode cX6_takeText 46 = .ok (.iload_n 2, 1) := by decide +kernel
theorem dX6_takeText_47 : decode cX6_takeText 47 = .ok (.bipush 12, 2) := by decide +kernel
theorem dX6_takeText_49 : decode cX6_takeText 49 = .ok (.if_icmp .ge 56, 3) := by decide +kernel
theorem dX6_takeText_5 : decode cX6_takeText 5 = .ok (.getfield 26, 3) := by decide +kernel
theorem dX6_takeText_52 : decode cX6_takeText 52 = .ok (.aload_n 0, 1) := by decide +kernel
theorem dX6_takeText_53 : decode cX6_takeText 53 = .ok (.getfield 9, 3) := by decide +kernel
theorem dX6_takeText_56 : decode cX6_takeText 56 = .ok (.aload_n 0, 1) := by decide +kernel
theorem dX6_takeText_57 : decode cX6_takeText 57 = .ok (.getfield 26, 3) := by decide +kernel
theorem dX6_takeText_60 : decode cX6_takeText 60 = .ok (.invokevirtual 150, 3) := by decide +kernel
theorem dX6_takeText_63 : decode cX6_takeText 63 = .ok (.invokestatic 175, 3) := by decide +kernel
theorem dX6_takeText_66 : decode cX6_takeText 66 = .ok (.ifCond .eq 39, 3) := by decide +kernel
theorem dX6_takeText_69 : decode cX6_takeText 69 = .ok (.aload_n 0, 1) := by decide +kernel
theorem dX6_takeText_70 : decode cX6_takeText 70 = .ok (.getfield 22, 3) := by decide +kernel
theorem dX6_takeText_73 : decode cX6_takeText 73 = .ok (.aload_n 0, 1) := by decide +kernel
theorem dX6_takeText_74 : decode cX6_takeText 74 = .ok (.getfield 9, 3) := by decide +kernel
theorem dX6_takeText_77 : decode cX6_takeText 77 = .ok (.aload_n 0, 1) := by decide +kernel
theorem dX6_takeText_78 : decode cX6_takeText 78 = .ok (.getfield 26, 3) := by decide +kernel
theorem dX6_takeText_8 : decode cX6_takeText 8 = .ok (.invokevirtual 150, 3) := by decide +kernel
theorem dX6_takeText_81 : decode cX6_takeText 81 = .ok (.invokevirtual 150, 3) := by decide +kernel
theorem dX6_takeText_84 : decode cX6_takeText 84 = .ok (.i2c, 1) := by decide +kernel
theorem dX6_takeText_85 : decode cX6_takeText 85 = .ok (.invokevirtual 178, 3) := by decide +kernel
theorem dX6_takeText_88 : decode cX6_takeText 88 = .ok (.pop, 1) := by decide +kernel
theorem dX6_takeText_89 : decode cX6_takeText 89 = .ok (.aload_n 0, 1) := by decide +kernel
theorem dX6_takeText_90 : decode cX6_takeText 90 = .ok (.dup, 1) := by decide +kernel
theorem dX6_takeText_91 : decode cX6_takeText 91 = .ok (.getfield 26, 3) := by decide +kernel
theorem dX6_takeText_94 : decode cX6_takeText 94 = .ok (.iconst 1, 1) := by decide +kernel
theorem dX6_takeText_95 : decode cX6_takeText 95 = .ok (.iadd, 1) := by decide +kernel
theorem dX6_takeText_96 : decode cX6_takeText 96 = .ok (.putfield 26, 3) := by decide +kernel
theorem dX6_takeText_99 : decode cX6_takeText 99 = .ok (.iinc 2 1, 3) := by decide +kernel
theorem dX6_takeWord_0 : decode cX6_takeWord 0 = .ok (.aload_n 0, 1) := by decide +kernel
theorem dX6_takeWord_1 : decode cX6_takeWord 1 = .ok (.getfield 22, 3) := by decide +kernel
theorem dX6_takeWord_12 : decode cX6_takeWord 12 = .ok (.istore_n 1, 1) := by decide +kernel
theorem dX6_takeWord_13 : decode cX6_takeWord 13 = .ok (.iload_n 1, 1) := by decide +kernel
theorem dX6_takeWord_14 : decode cX6_takeWord 14 = .ok (.aload_n 0, 1) := by decide +kernel
theorem dX6_takeWord_15 : decode cX6_takeWord 15 = .ok (.getfield 9, 3) := by decide +kernel
theorem dX6_takeWord_18 : decode cX6_takeWord 18 = .ok (.invokevirtual 42, 3) := by decide +kernel
theorem dX6_takeWord_21 : decode cX6_takeWord 21 = .ok (.if_icmp .ge 34, 3) := by decide +kernel
theorem dX6_takeWord_24 : decode cX6_takeWord 24 = .ok (.aload_n 0, 1) := by decide +kernel
theorem dX6_takeWord_25 : decode cX6_takeWord 25 = .ok (.iload_n 1, 1) := by decide +kernel
theorem dX6_takeWord_26 : decode cX6_takeWord 26 = .ok (.invokevirtual 108, 3) := by decide +kernel
theorem dX6_takeWord_29 : decode cX6_takeWord 29 = .ok (.ifCond .eq 26, 3) := by decide +kernel
theorem dX6_takeWord_32 : decode cX6_takeWord 32 = .ok (.aload_n 0, 1) := by decide +kernel
theorem dX6_takeWord_33 : decode cX6_takeWord 33 = .ok (.getfield 22, 3) := by decide +kernel
theorem dX6_takeWord_36 : decode cX6_takeWord 36 = .ok (.aload_n 0, 1) := by decide +kernel
theorem dX6_takeWord_37 : decode cX6_takeWord 37 = .ok (.getfield 9, 3) := by decide +kernel
theorem dX6_takeWord_4 : decode cX6_takeWord 4 = .ok (.iconst 0, 1) := by decide +kernel
theorem dX6_takeWord_40 : decode cX6_takeWord 40 = .ok (.iload_n 1, 1) := by decide +kernel
theorem dX6_takeWord_41 : decode cX6_takeWord 41 = .ok (.invokevirtual 150, 3) := by decide +kernel
theorem dX6_takeWord_44 : decode cX6_takeWord 44 = .ok (.i2c, 1) := by decide +kernel
theorem dX6_takeWord_45 : decode cX6_takeWord 45 = .ok (.invokevirtual 178, 3) := by decide +kernel
theorem dX6_takeWord_48 : decode cX6_takeWord 48 = .ok (.pop, 1) := by decide +kernel
theorem dX6_takeWord_49 : decode cX6_takeWord 49 = .ok (.iinc 1 1, 3) := by decide +kernel
theorem dX6_takeWord_5 : decode cX6_takeWord 5 = .ok (.invokevirtual 171, 3) := by decide +kernel
theorem dX6_takeWord_52 : decode cX6_takeWord 52 = .ok (.goto (-39), 3) := by decide +kernel
theorem dX6_takeWord_55 : decode cX6_takeWord 55 = .ok (.aload_n 0, 1) := by decide +kernel
theorem dX6_takeWord_56 : decode cX6_takeWord 56 = .ok (.dup, 1) := by decide +kernel
theorem dX6_takeWord_57 : decode cX6_takeWord 57 = .ok (.getfield 26, 3) := by decide +kernel
theorem dX6_takeWord_60 : decode cX6_takeWord 60 = .ok (.aload_n 0, 1) := by decide +kernel
theorem dX6_takeWord_61 : decode cX6_takeWord 61 = .ok (.getfield 22, 3) := by decide +kernel
theorem dX6_takeWord_64 : decode cX6_takeWord 64 = .ok (.invokevirtual 188, 3) := by decide +kernel
theorem dX6_takeWord_67 : decode cX6_takeWord 67 = .ok (.iadd, 1) := by decide +kernel
theorem dX6_takeWord_68 : decode cX6_takeWord 68 = .ok (.putfield 26, 3) := by decide +kernel
theorem dX6_takeWord_71 : decode cX6_takeWord 71 = .ok (.aload_n 0, 1) := by decide +kernel
theorem dX6_takeWord_72 : decode cX6_takeWord 72 = .ok (.getfield 22, 3) := by decide +kernel
theorem dX6_takeWord_75 : decode cX6_takeWord 75 = .ok (.invokevirtual 182, 3) := by decide +kernel
theorem dX6_takeWord_78 : decode cX6_takeWord 78 = .ok (.areturn, 1) := by decide +kernel
theorem dX6_takeWord_8 : decode cX6_takeWord 8 = .ok (.aload_n 0, 1) := by decide +kernel
theorem dX6_takeWord_9 : decode cX6_takeWord 9 = .ok (.getfield 26, 3) := by decide +kernel
theorem dX6_tell_0 : decode cX6_tell 0 = .ok (.aload_n 0, 1) := by decide +kernel
theorem dX6_tell_1 : decode cX6_tell 1 = .ok (.iconst 0, 1) := by decide +kernel
theorem dX6_tell_10 : decode cX6_tell 10 = .ok (.aload_n 0, 1) := by decide +kernel
theorem dX6_tell_11 : decode cX6_tell 11 = .ok (.iconst (-1), 1) := by decide +kernel
theorem dX6_tell_12 : decode cX6_tell 12 = .ok (.putfield 33, 3) := by decide +kernel
theorem dX6_tell_15 : decode cX6_tell 15 = .ok (.new 36, 3) := by decide +kernel
theorem dX6_tell_18 : decode cX6_tell 18 = .ok (.dup, 1) := by decide +kernel
theorem dX6_tell_19 : decode cX6_tell 19 = .ok (.invokespecial 38, 3) := by decide +kernel
theorem dX6_tell_2 : decode cX6_tell 2 = .ok (.putfield 26, 3) := by decide +kernel
theorem dX6_tell_22 : decode cX6_tell 22 = .ok (.astore_n 2, 1) := by decide +kernel
theorem dX6_tell_23 : decode cX6_tell 23 = .ok (.iconst 0, 1) := by decide +kernel
theorem dX6_tell_24 : decode cX6_tell 24 = .ok (.istore_n 3, 1) := by decide +kernel
theorem dX6_tell_25 : decode cX6_tell 25 = .ok (.iload_n 3, 1) := by decide +kernel
theorem dX6_tell_26 : decode cX6_tell 26 = .ok (.bipush 10, 2) := by decide +kernel
theorem dX6_tell_28 : decode cX6_tell 28 = .ok (.if_icmp .gt 62, 3) := by decide +kernel
theorem dX6_tell_31 : decode cX6_tell 31 = .ok (.aload_n 0, 1) := by decide +kernel
theorem dX6_tell_32 : decode cX6_tell 32 = .ok (.getfield 30, 3) := by decide +kernel
theorem dX6_tell_35 : decode cX6_tell 35 = .ok (.ifCond .ne 55, 3) := by decide +kernel
theorem dX6_tell_38 : decode cX6_tell 38 = .ok (.aload_n 0, 1) := by decide +kernel
theorem dX6_tell_39 : decode cX6_tell 39 = .ok (.invokevirtual 39, 3) := by decide +kernel
theorem dX6_tell_42 : decode cX6_tell 42 = .ok (.aload_n 0, 1) := by decide +kernel
theorem dX6_tell_43 : decode cX6_tell 43 = .ok (.getfield 26, 3) := by decide +kernel
theorem dX6_tell_46 : decode cX6_tell 46 = .ok (.aload_n 0, 1) := by decide +kernel
theorem dX6_tell_47 : decode cX6_tell 47 = .ok (.getfield 9, 3) := by decide +kernel
theorem dX6_tell_5 : decode cX6_tell 5 = .ok (.aload_n 0, 1) := by decide +kernel
theorem dX6_tell_50 : decode cX6_tell 50 = .ok (.invokevirtual 42, 3) := by decide +kernel
theorem dX6_tell_53 : decode cX6_tell 53 = .ok (.if_icmp .lt 5, 3) := by decide +kernel
theorem dX6_tell_56 : decode cX6_tell 56 = .ok (.aload_n 2, 1) := by decide +kernel
theorem dX6_tell_57 : decode cX6_tell 57 = .ok (.areturn, 1) := by decide +kernel
theorem dX6_tell_58 : decode cX6_tell 58 = .ok (.iload_n 3, 1) := by decide +kernel
theorem dX6_tell_59 : decode cX6_tell 59 = .ok (.bipush 10, 2) := by decide +kernel
theorem dX6_tell_6 : decode cX6_tell 6 = .ok (.iconst 0, 1) := by decide +kernel
theorem dX6_tell_61 : decode cX6_tell 61 = .ok (.if_icmp .ne 16, 3) := by decide +kernel
theorem dX6_tell_64 : decode cX6_tell 64 = .ok (.aload_n 0, 1) := by decide +kernel
theorem dX6_tell_65 : decode cX6_tell 65 = .ok (.iconst 1, 1) := by decide +kernel
theorem dX6_tell_66 : decode cX6_tell 66 = .ok (.aload_n 0, 1) := by decide +kernel
theorem dX6_tell_67 : decode cX6_tell 67 = .ok (.getfield 26, 3) := by decide +kernel
theorem dX6_tell_7 : decode cX6_tell 7 = .ok (.putfield 30, 3) := by decide +kernel
theorem dX6_tell_70 : decode cX6_tell 70 = .ok (.invokevirtual 48, 3) := by decide +kernel
theorem dX6_tell_73 : decode cX6_tell 73 = .ok (.pop, 1) := by decide +kernel
theorem dX6_tell_74 : decode cX6_tell 74 = .ok (.goto 10, 3) := by decide +kernel
theorem dX6_tell_77 : decode cX6_tell 77 = .ok (.aload_n 0, 1) := by decide +kernel
theorem dX6_tell_78 : decode cX6_tell 78 = .ok (.iload_n 1, 1) := by decide +kernel
theorem dX6_tell_79 : decode cX6_tell 79 = .ok (.aload_n 2, 1) := by decide +kernel
theorem dX6_tell_80 : decode cX6_tell 80 = .ok (.invokevirtual 52, 3) := by decide +kernel
theorem dX6_tell_83 : decode cX6_tell 83 = .ok (.pop, 1) := by decide +kernel
theorem dX6_tell_84 : decode cX6_tell 84 = .ok (.iinc 3 1, 3) := by decide +kernel
theorem dX6_tell_87 : decode cX6_tell 87 = .ok (.goto (-62), 3) := by decide +kernel
theorem dX6_tell_90 : decode cX6_tell 90 = .ok (.aconst_null, 1) := by decide +kernel
theorem dX6_tell_91 : decode cX6_tell 91 = .ok (.areturn, 1) := by decide +kernel
theorem dX8_make_0 : decode cX8_make 0 = .ok (.iload_n 1, 1) := by decide +kernel
theorem dX8_make_1 : decode cX8_make 1 = .ok (.ifCond .lt 18, 3) := by decide +kernel
theorem dX8_make_10 : decode cX8_make 10 = .ok (.aload_n 0, 1) := by decide +kernel
theorem dX8_make_11 : decode cX8_make 11 = .ok (.getfield 24, 3) := by decide +kernel
theorem dX8_make_14 : decode cX8_make 14 = .ok (.iload_n 1, 1) := by decide +kernel
theorem dX8_make_15 : decode cX8_make 15 = .ok (.aaload, 1) := by decide +kernel
theorem dX8_make_16 : decode cX8_make 16 = .ok (.ifnull 6, 3) := by decide +kernel
theorem dX8_make_19 : decode cX8_make 19 = .ok (.bipush (-2), 2) := by decide +kernel
theorem dX8_make_21 : decode cX8_make 21 = .ok (.ireturn, 1) := by decide +kernel
theorem dX8_make_22 : decode cX8_make 22 = .ok (.aload_n 0, 1) := by decide +kernel
theorem dX8_make_23 : decode cX8_make 23 = .ok (.getfield 33, 3) := by decide +kernel
theorem dX8_make_26 : decode cX8_make 26 = .ok (.iload_n 1, 1) := by decide +kernel
theorem dX8_make_27 : decode cX8_make 27 = .ok (.invokevirtual 87, 3) := by decide +kernel
theorem dX8_make_30 : decode cX8_make 30 = .ok (.astore_n 2, 1) := by decide +kernel
theorem dX8_make_31 : decode cX8_make 31 = .ok (.aload_n 0, 1) := by decide +kernel
theorem dX8_make_32 : decode cX8_make 32 = .ok (.getfield 14, 3) := by decide +kernel
theorem dX8_make_35 : decode cX8_make 35 = .ok (.iconst 0, 1) := by decide +kernel
theorem dX8_make_36 : decode cX8_make 36 = .ok (.invokevirtual 83, 3) := by decide +kernel
theorem dX8_make_39 : decode cX8_make 39 = .ok (.pop, 1) := by decide +kernel
theorem dX8_make_4 : decode cX8_make 4 = .ok (.iload_n 1, 1) := by decide +kernel
theorem dX8_make_40 : decode cX8_make 40 = .ok (.aload_n 0, 1) := by decide +kernel
theorem dX8_make_41 : decode cX8_make 41 = .ok (.aload_n 0, 1) := by decide +kernel
theorem dX8_make_42 : decode cX8_make 42 = .ok (.getfield 33, 3) := by decide +kernel
theorem dX8_make_45 : decode cX8_make 45 = .ok (.invokevirtual 91, 3) := by decide +kernel
theorem dX8_make_48 : decode cX8_make 48 = .ok (.putfield 66, 3) := by decide +kernel
theorem dX8_make_5 : decode cX8_make 5 = .ok (.bipush 8, 2) := by decide +kernel
theorem dX8_make_51 : decode cX8_make 51 = .ok (.aload_n 0, 1) := by decide +kernel
theorem dX8_make_52 : decode cX8_make 52 = .ok (.aload_n 0, 1) := by decide +kernel
theorem dX8_make_53 : decode cX8_make 53 = .ok (.getfield 33, 3) := by decide +kernel
theorem dX8_make_56 : decode cX8_make 56 = .ok (.invokevirtual 94, 3) := by decide +kernel
theorem dX8_make_59 : decode cX8_make 59 = .ok (.putfield 70, 3) := by decide +kernel
theorem dX8_make_62 : decode cX8_make 62 = .ok (.aload_n 2, 1) := by decide +kernel
theorem dX8_make_63 : decode cX8_make 63 = .ok (.ifnonnull 5, 3) := by decide +kernel
theorem dX8_make_66 : decode cX8_make 66 = .ok (.iconst (-1), 1) := by decide +kernel
theorem dX8_make_67 : decode cX8_make 67 = .ok (.ireturn, 1) := by decide +kernel
theorem dX8_make_68 : decode cX8_make 68 = .ok (.aload_n 0, 1) := by decide +kernel
theorem dX8_make_69 : decode cX8_make 69 = .ok (.getfield 24, 3) := by decide +kernel
theorem dX8_make_7 : decode cX8_make 7 = .ok (.if_icmp .ge 12, 3) := by decide +kernel
theorem dX8_make_72 : decode cX8_make 72 = .ok (.iload_n 1, 1) := by decide +kernel
theorem dX8_make_73 : decode cX8_make 73 = .ok (.aload_n 2, 1) := by decide +kernel
theorem dX8_make_74 : decode cX8_make 74 = .ok (.aastore, 1) := by decide +kernel
theorem dX8_make_75 : decode cX8_make 75 = .ok (.aload_n 2, 1) := by decide +kernel
theorem dX8_make_76 : decode cX8_make 76 = .ok (.invokevirtual 97, 3) := by decide +kernel
theorem dX8_make_79 : decode cX8_make 79 = .ok (.ireturn, 1) := by decide +kernel
noncomputable def fX6_takeWord_78 (h0 : Nat)  (s0 : Option Nat) (gs : CS) : Option (Option Nat × CS) := some (s0, gs)
set_option maxHeartbeats 1000000 in
theorem mo_X6_takeWord_78 (h0 : Nat)   (s0 : Option Nat) (gs : CS) (r : Option Nat) (st' : CS) (hf : fX6_takeWord_78 h0 s0 gs = some (r, st')) : Mo gs st' := by
  unfold fX6_takeWord_78 at hf
  have hm : Mo gs gs := Mo.rf
  obtain ⟨e1, e2⟩ := pr_some hf
  exact e2 ▸ hm
noncomputable def fX6_takeWord_67 (h0 : Nat)  (s0 : Int32) (s1 : Int32) (gs : CS) : Option (Option Nat × CS) := gd (qk gs h0 = 9) (nam (wI gs h0 3 (s1 + s0)) (fun st_2 => ono (qP st_2 h0 2) (fun a_3 => gd (qk st_2 a_3 = 2) (bnd (fJ4_toString_0e30d a_3 st_2) (fun r_8 st_6 => fX6_takeWord_78 h0 r_8 st_6)))))
set_option maxHeartbeats 1000000 in
theorem mo_X6_takeWord_67 (h0 : Nat)   (s0 : Int32) (s1 : Int32) (gs : CS) (r : Option Nat) (st' : CS) (hf : fX6_takeWord_67 h0 s0 s1 gs = some (r, st')) : Mo gs st' := by
  unfold fX6_takeWord_67 at hf
  have hm : Mo gs gs := Mo.rf
  obtain ⟨hk_1, hf⟩ := gd_some hf
  obtain ⟨st_2, est_2, hf⟩ := nam_some hf
  have hm := hm.wI est_2
  obtain ⟨a_3, ha_4, hf⟩ := ono_some hf
  obtain ⟨hk_5, hf⟩ := gd_some hf
  obtain ⟨r_8, st_6, hc_7, hf⟩ := bnd_some hf
  have hm := hm.tr (mo_J4_toString_0e30d a_3 _ _ _ hc_7)
  exact hm.tr (mo_X6_takeWord_78 h0 r_8 st_6 _ _ hf)
noncomputable def fX6_takeWord_55 (h0 : Nat)  (gs : CS) : Option (Option Nat × CS) := gd (qk gs h0 = 9) (ono (qP gs h0 2) (fun a_10 => gd (qk gs a_10 = 2) (bnd (fJ4_length_8abf5 a_10 gs) (fun r_15 st_13 => fX6_takeWord_67 h0 r_15 (qI gs h0 3) st_13))))
set_option maxHeartbeats 1000000 in
theorem mo_X6_takeWord_55 (h0 : Nat)   (gs : CS) (r : Option Nat) (st' : CS) (hf : fX6_takeWord_55 h0 gs = some (r, st')) : Mo gs st' := by
  unfold fX6_takeWord_55 at hf
  have hm : Mo gs gs := Mo.rf
  obtain ⟨hk_9, hf⟩ := gd_some hf
  obtain ⟨a_10, ha_11, hf⟩ := ono_some hf
  obtain ⟨hk_12, hf⟩ := gd_some hf
  obtain ⟨r_15, st_13, hc_14, hf⟩ := bnd_some hf
  have hm := hm.ke (mo_J4_length_8abf5 a_10 _ _ _ hc_14)
  exact hm.tr (mo_X6_takeWord_67 h0 r_15 (qI gs h0 3) st_13 _ _ hf)
noncomputable def fX6_takeWord_48 (h0 : Nat) (k13 : Int32 → CS → Option (Option Nat × CS)) (l1 : Int32) (s0 : Option Nat) (gs : CS) : Option (Option Nat × CS) := nam (l1 + 1) (fun v_16 => k13 v_16 gs)
set_option maxHeartbeats 1000000 in
theorem mo_X6_takeWord_48 (h0 : Nat) (k13 : Int32 → CS → Option (Option Nat × CS)) (hk13 : ∀ (l1 : Int32) (gs : CS) (r : Option Nat) (st' : CS), k13 l1 gs = some (r, st') → Mo gs st') (l1 : Int32) (s0 : Option Nat) (gs : CS) (r : Option Nat) (st' : CS) (hf : fX6_takeWord_48 h0 k13 l1 s0 gs = some (r, st')) : Mo gs st' := by
  unfold fX6_takeWord_48 at hf
  have hm : Mo gs gs := Mo.rf
  obtain ⟨v_16, ev_16, hf⟩ := nam_some hf
  exact hm.tr (hk13 v_16 gs _ _ hf)
noncomputable def fX6_takeWord_44 (h0 : Nat) (k13 : Int32 → CS → Option (Option Nat × CS)) (l1 : Int32) (s0 : Int32) (s1 : Option Nat) (gs : CS) : Option (Option Nat × CS) := ono s1 (fun a_17 => gd (qk gs a_17 = 2) (bnd (fJ4_append_cf468 a_17 ((s0.toUInt32 % 65536).toInt32) gs) (fun r_22 st_20 => fX6_takeWord_48 h0 k13 l1 r_22 st_20)))
set_option maxHeartbeats 1000000 in
theorem mo_X6_takeWord_44 (h0 : Nat) (k13 : Int32 → CS → Option (Option Nat × CS)) (hk13 : ∀ (l1 : Int32) (gs : CS) (r : Option Nat) (st' : CS), k13 l1 gs = some (r, st') → Mo gs st') (l1 : Int32) (s0 : Int32) (s1 : Option Nat) (gs : CS) (r : Option Nat) (st' : CS) (hf : fX6_takeWord_44 h0 k13 l1 s0 s1 gs = some (r, st')) : Mo gs st' := by
  unfold fX6_takeWord_44 at hf
  have hm : Mo gs gs := Mo.rf
  obtain ⟨a_17, ha_18, hf⟩ := ono_some hf
  obtain ⟨hk_19, hf⟩ := gd_some hf
  obtain ⟨r_22, st_20, hc_21, hf⟩ := bnd_some hf
  have hm := hm.tr (mo_J4_append_cf468 a_17 ((s0.toUInt32 % 65536).toInt32) _ _ _ hc_21)
  exact hm.tr (mo_X6_takeWord_48 h0 k13 hk13 l1 r_22 st_20 _ _ hf)
noncomputable def fX6_takeWord_29 (h0 : Nat) (k13 : Int32 → CS → Option (Option Nat × CS)) (l1 : Int32) (s0 : Int32) (gs : CS) : Option (Option Nat × CS) := pif (s0 = 0) (fX6_takeWord_55 h0 gs) (gd (qk gs h0 = 9) (ono (qP gs h0 0) (fun a_25 => gd (qk gs a_25 = 8) (bnd (fX5_byteAt a_25 l1 gs) (fun r_30 st_28 => fX6_takeWord_44 h0 k13 l1 r_30 (qP gs h0 2) st_28)))))
set_option maxHeartbeats 1000000 in
theorem mo_X6_takeWord_29 (h0 : Nat) (k13 : Int32 → CS → Option (Option Nat × CS)) (hk13 : ∀ (l1 : Int32) (gs : CS) (r : Option Nat) (st' : CS), k13 l1 gs = some (r, st') → Mo gs st') (l1 : Int32) (s0 : Int32) (gs : CS) (r : Option Nat) (st' : CS) (hf : fX6_takeWord_29 h0 k13 l1 s0 gs = some (r, st')) : Mo gs st' := by
  unfold fX6_takeWord_29 at hf
  have hm : Mo gs gs := Mo.rf
  rcases pif_or hf with ⟨c_23, hf⟩ | ⟨c_23, hf⟩
  · exact hm.tr (mo_X6_takeWord_55 h0 gs _ _ hf)
  · obtain ⟨hk_24, hf⟩ := gd_some hf
    obtain ⟨a_25, ha_26, hf⟩ := ono_some hf
    obtain ⟨hk_27, hf⟩ := gd_some hf
    obtain ⟨r_30, st_28, hc_29, hf⟩ := bnd_some hf
    have hm := hm.ke (mo_X5_byteAt a_25 l1 _ _ _ hc_29)
    exact hm.tr (mo_X6_takeWord_44 h0 k13 hk13 l1 r_30 (qP gs h0 2) st_28 _ _ hf)
noncomputable def fX6_takeWord_21 (h0 : Nat) (k13 : Int32 → CS → Option (Option Nat × CS)) (l1 : Int32) (s0 : Int32) (s1 : Int32) (gs : CS) : Option (Option Nat × CS) := pif (s0 ≤ s1) (fX6_takeWord_55 h0 gs) (gd (qk gs h0 = 9) (bnd (fX6_isLetter h0 l1 gs) (fun r_35 st_33 => fX6_takeWord_29 h0 k13 l1 r_35 st_33)))
set_option maxHeartbeats 1000000 in
theorem mo_X6_takeWord_21 (h0 : Nat) (k13 : Int32 → CS → Option (Option Nat × CS)) (hk13 : ∀ (l1 : Int32) (gs : CS) (r : Option Nat) (st' : CS), k13 l1 gs = some (r, st') → Mo gs st') (l1 : Int32) (s0 : Int32) (s1 : Int32) (gs : CS) (r : Option Nat) (st' : CS) (hf : fX6_takeWord_21 h0 k13 l1 s0 s1 gs = some (r, st')) : Mo gs st' := by
  unfold fX6_takeWord_21 at hf
  have hm : Mo gs gs := Mo.rf
  rcases pif_or hf with ⟨c_31, hf⟩ | ⟨c_31, hf⟩
  · exact hm.tr (mo_X6_takeWord_55 h0 gs _ _ hf)
  · obtain ⟨hk_32, hf⟩ := gd_some hf
    obtain ⟨r_35, st_33, hc_34, hf⟩ := bnd_some hf
    have hm := hm.ke (mo_X6_isLetter h0 l1 _ _ _ hc_34)
    exact hm.tr (mo_X6_takeWord_29 h0 k13 hk13 l1 r_35 st_33 _ _ hf)
noncomputable def fX6_takeWord_13 (h0 : Nat)  : Nat → Int32 → CS → Option (Option Nat × CS)
  | 0 => fun _ _ => none
  | n + 1 => fun l1 gs => gd (qk gs h0 = 9) (ono (qP gs h0 0) (fun a_37 => gd (qk gs a_37 = 8) (bnd (fX5_size a_37 gs) (fun r_42 st_40 => fX6_takeWord_21 h0 (fX6_takeWord_13 h0 n) l1 r_42 l1 st_40))))
theorem fX6_takeWord_13_z (h0 : Nat)  (l1 : Int32) (gs : CS) : fX6_takeWord_13 h0 0 l1 gs = none := rfl
theorem fX6_takeWord_13_s (h0 : Nat)  (n : Nat) (l1 : Int32) (gs : CS) : fX6_takeWord_13 h0 (n + 1) l1 gs = gd (qk gs h0 = 9) (ono (qP gs h0 0) (fun a_37 => gd (qk gs a_37 = 8) (bnd (fX5_size a_37 gs) (fun r_42 st_40 => fX6_takeWord_21 h0 (fX6_takeWord_13 h0 n) l1 r_42 l1 st_40)))) := rfl
set_option maxHeartbeats 1000000 in
theorem mo_X6_takeWord_13 (h0 : Nat)   : ∀ (n : Nat) (l1 : Int32) (gs : CS) (r : Option Nat) (st' : CS), fX6_takeWord_13 h0 n l1 gs = some (r, st') → Mo gs st' := by
  intro n
  induction n with
  | zero =>
    intro l1 gs r st' hf
    rw [fX6_takeWord_13_z] at hf
    cases hf
  | succ n ih =>
    intro l1 gs r st' hf
    rw [fX6_takeWord_13_s] at hf
    have hm : Mo gs gs := Mo.rf
    obtain ⟨hk_36, hf⟩ := gd_some hf
    obtain ⟨a_37, ha_38, hf⟩ := ono_some hf
    obtain ⟨hk_39, hf⟩ := gd_some hf
    obtain ⟨r_42, st_40, hc_41, hf⟩ := bnd_some hf
    have hm := hm.ke (mo_X5_size a_37 _ _ _ hc_41)
    exact hm.tr (mo_X6_takeWord_21 h0 (fX6_takeWord_13 h0 n) ih l1 r_42 l1 st_40 _ _ hf)
noncomputable def fX6_takeWord_8 (h0 : Nat)  (gs : CS) : Option (Option Nat × CS) := gd (qk gs h0 = 9) (nam (qI gs h0 3) (fun v_44 => fX6_takeWord_13 h0 fuel v_44 gs))
set_option maxHeartbeats 1000000 in
theorem mo_X6_takeWord_8 (h0 : Nat)   (gs : CS) (r : Option Nat) (st' : CS) (hf : fX6_takeWord_8 h0 gs = some (r, st')) : Mo gs st' := by
  unfold fX6_takeWord_8 at hf
  have hm : Mo gs gs := Mo.rf
  obtain ⟨hk_43, hf⟩ := gd_some hf
  obtain ⟨v_44, ev_44, hf⟩ := nam_some hf
  exact hm.tr (mo_X6_takeWord_13 h0 fuel v_44 gs _ _ hf)
noncomputable def fX6_takeWord (h0 : Nat) (st : CS) : Option (Option Nat × CS) := gd (qk st h0 = 9) (ono (qP st h0 2) (fun a_46 => gd (qk st a_46 = 2) (bnv (fJ4_setLength_d00df a_46 0 st) (fun st_49 => fX6_takeWord_8 h0 st_49))))
set_option maxHeartbeats 1000000 in
theorem mo_X6_takeWord (h0 : Nat) (st : CS) (r : Option Nat) (st' : CS) (hf : fX6_takeWord h0 st = some (r, st')) : Mo st st' := by
  unfold fX6_takeWord at hf
  have hm : Mo st st := Mo.rf
  obtain ⟨hk_45, hf⟩ := gd_some hf
  obtain ⟨a_46, ha_47, hf⟩ := ono_some hf
  obtain ⟨hk_48, hf⟩ := gd_some hf
  obtain ⟨st_49, hc_50, hf⟩ := bnv_some hf
  have hm := hm.tr (mo_J4_setLength_d00df a_46 0 _ _ hc_50)
  exact hm.tr (mo_X6_takeWord_8 h0 st_49 _ _ hf)
def wq_X6_takeWord : List Cond := .code yX6_takeWord cX6_takeWord 2 (some (.object "java/lang/String")) :: (([.fieldLink RX6 22 "RecordBench$TextReader" "letters" "Ljava/lang/StringBuilder;", .fieldLink RX6 26 "RecordBench$TextReader" "pos" "I", .fieldLink RX6 9 "RecordBench$TextReader" "tape" "LRecordBench$Row;", .methodLink RX6 182 yJ4_toString_0e30d, .instanceMethod yJ4_toString_0e30d, .selects RJ4 yJ4_toString_0e30d yJ4_toString_0e30d, .initialized RJ4, .methodLink RX6 188 yJ4_length_8abf5, .instanceMethod yJ4_length_8abf5, .selects RJ4 yJ4_length_8abf5 yJ4_length_8abf5, .methodLink RX6 178 yJ4_append_cf468, .instanceMethod yJ4_append_cf468, .selects RJ4 yJ4_append_cf468 yJ4_append_cf468, .methodLink RX6 150 yX5_byteAt, .instanceMethod yX5_byteAt, .selects RX5 yX5_byteAt yX5_byteAt, .initialized RX5, .methodLink RX6 108 yX6_isLetter, .instanceMethod yX6_isLetter, .selects RX6 yX6_isLetter yX6_isLetter, .initialized RX6, .methodLink RX6 42 yX5_size, .instanceMethod yX5_size, .selects RX5 yX5_size yX5_size, .methodLink RX6 171 yJ4_setLength_d00df, .instanceMethod yJ4_setLength_d00df, .selects RJ4 yJ4_setLength_d00df yJ4_setLength_d00df, .code yJ4_toString_0e30d cJ4_toString_0e30d 1 (some (.object "java/lang/String")), .instanceMethod yJ0_init_81219, .initialized RJ0, .methodLink RJ4 137 yJ0_init_81219, .classLink RJ4 18 RJ0, .instantiable RJ0 4, .code yJ0_init_81219 cJ0_init_81219 2 none, .instanceMethod yJ0_init_db425, .methodLink RJ0 489 yJ0_init_db425, .code yJ0_init_db425 cJ0_init_db425 5 none, .methodLink RJ0 1 objectInit, .instanceMethod objectInit, .code objectInit ⟨#[0xb1]⟩ 1 none, .fieldLink RJ0 15 "java/lang/String" "coder" "B", .fieldLink RJ0 9 "java/lang/String" "value" "[B", .methodLink RJ0 54 yJ7_copyOfRange_39247, .static yJ7_copyOfRange_39247, .initialized RJ7, .methodLink RJ0 1047 ⟨"java/lang/AbstractStringBuilder", "isLatin1", "()Z"⟩, .sameMethod "java/lang/AbstractStringBuilder" "java/lang/AbstractStringBuilder" "isLatin1" "()Z", .selects RJ4 ⟨"java/lang/AbstractStringBuilder", "isLatin1", "()Z"⟩ yJ5_isLatin1_aae02, .instanceMethod yJ5_isLatin1_aae02, .initialized RJ5, .methodLink RJ0 549 ⟨"java/lang/AbstractStringBuilder", "length", "()I"⟩, .sameMethod "java/lang/AbstractStringBuilder" "java/lang/AbstractStringBuilder" "length" "()I", .instanceMethod yJ5_length_8abf5, .selects RJ4 ⟨"java/lang/AbstractStringBuilder", "length", "()I"⟩ yJ4_length_8abf5, .methodLink RJ0 552 ⟨"java/lang/AbstractStringBuilder", "getValue", "()[B"⟩, .sameMethod "java/lang/AbstractStringBuilder" "java/lang/AbstractStringBuilder" "getValue" "()[B", .selects RJ4 ⟨"java/lang/AbstractStringBuilder", "getValue", "()[B"⟩ yJ5_getValue_6d5f1, .instanceMethod yJ5_getValue_6d5f1, .code yJ7_copyOfRange_39247 cJ7_copyOfRange_39247 3 (some (.array .byte)), .classLink RJ7 311 "[B", .methodLink RJ7 339 yJ7_copyOfRangeByte_39247, .static yJ7_copyOfRangeByte_39247, .methodLink RJ7 310 ⟨"[B", "clone", "()Ljava/lang/Object;"⟩, .sameMethod "[B" "java/lang/Object" "clone" "()Ljava/lang/Object;", .native ⟨"java/lang/Object", "clone", "()Ljava/lang/Object;"⟩, .instanceMethod ⟨"java/lang/Object", "clone", "()Ljava/lang/Object;"⟩, .selects "[B" ⟨"[B", "clone", "()Ljava/lang/Object;"⟩ ⟨"java/lang/Object", "clone", "()Ljava/lang/Object;"⟩, .code yJ7_copyOfRangeByte_39247 cJ7_copyOfRangeByte_39247 5 (some (.array .byte)), .methodLink RJ7 304 Lib.Math.min.name, .static Lib.Math.min.name, .initialized "java/lang/Math", .code Lib.Math.min.name Lib.Math.min.code 2 (some .int), .methodLink RJ7 150 arraycopyName, .native arraycopyName, .static arraycopyName, .initialized "java/lang/System", .arrayClass .byte, .methodLink RJ7 343 yJ7_checkLength_df160, .static yJ7_checkLength_df160, .code yJ7_checkLength_df160 cJ7_checkLength_df160 2 none, .code yJ5_isLatin1_aae02 cJ5_isLatin1_aae02 1 (some .boolean), .fieldLink RJ5 18 "java/lang/String" "COMPACT_STRINGS" "Z", .fieldLink RJ5 22 "java/lang/AbstractStringBuilder" "coder" "B", .code yJ4_length_8abf5 cJ4_length_8abf5 1 (some .int), .methodLink RJ4 343 yJ5_length_8abf5, .superclass RJ4 RJ5, .code yJ5_length_8abf5 cJ5_length_8abf5 1 (some .int), .fieldLink RJ5 79 "java/lang/AbstractStringBuilder" "count" "I", .code yJ5_getValue_6d5f1 cJ5_getValue_6d5f1 1 (some (.array .byte)), .fieldLink RJ5 15 "java/lang/AbstractStringBuilder" "value" "[B", .code yJ4_append_cf468 cJ4_append_cf468 2 (some (.object "java/lang/StringBuilder")), .methodLink RJ4 50 yJ5_append_3fe6f, .sameMethod "java/lang/AbstractStringBuilder" "java/lang/AbstractStringBuilder" "append" "(C)Ljava/lang/AbstractStringBuilder;", .instanceMethod yJ5_append_3fe6f, .code yJ5_append_3fe6f cJ5_append_3fe6f 2 (some (.object "java/lang/AbstractStringBuilder")), .methodLink RJ5 191 yJ1_canEncode_fc78d, .static yJ1_canEncode_fc78d, .initialized RJ1, .methodLink RJ5 83 ⟨"java/lang/AbstractStringBuilder", "isLatin1", "()Z"⟩, .methodLink RJ5 100 ⟨"java/lang/AbstractStringBuilder", "ensureCapacityInternal", "(I)V"⟩, .sameMethod "java/lang/AbstractStringBuilder" "java/lang/AbstractStringBuilder" "ensureCapacityInternal" "(I)V", .selects RJ4 ⟨"java/lang/AbstractStringBuilder", "ensureCapacityInternal", "(I)V"⟩ yJ5_ensureCapacityInternal_d00df, .instanceMethod yJ5_ensureCapacityInternal_d00df, .code yJ1_canEncode_fc78d cJ1_canEncode_fc78d 1 (some .boolean), .code yJ5_ensureCapacityInternal_d00df cJ5_ensureCapacityInternal_d00df 3 none, .methodLink RJ5 108 yJ7_copyOf_9075b, .static yJ7_copyOf_9075b, .methodLink RJ5 104 ⟨"java/lang/AbstractStringBuilder", "newCapacity", "(I)I"⟩, .sameMethod "java/lang/AbstractStringBuilder" "java/lang/AbstractStringBuilder" "newCapacity" "(I)I", .selects RJ4 ⟨"java/lang/AbstractStringBuilder", "newCapacity", "(I)I"⟩ yJ5_newCapacity_0f7a4, .instanceMethod yJ5_newCapacity_0f7a4, .code yJ7_copyOf_9075b cJ7_copyOf_9075b 3 (some (.array .byte)), .code yJ5_newCapacity_0f7a4 cJ5_newCapacity_0f7a4 6 (some .int), .constant RJ5 39 (2147483647), .methodLink RJ5 114 yJ8_newLength_cabcc, .static yJ8_newLength_cabcc, .initialized RJ8, .code yJ8_newLength_cabcc cJ8_newLength_cabcc 4 (some .int), .methodLink RJ8 194 Lib.Math.max.name, .static Lib.Math.max.name, .code Lib.Math.max.name Lib.Math.max.code 2 (some .int), .constant RJ8 200 (2147483639), .code yX5_byteAt cX5_byteAt 2 (some .int), .fieldLink RX5 21 "RecordBench$Row" "size" "I", .fieldLink RX5 15 "RecordBench$Row" "bytes" "[I", .code yX6_isLetter cX6_isLetter 3 (some .boolean), .code yX5_size cX5_size 1 (some .int), .code yJ4_setLength_d00df cJ4_setLength_d00df 2 none, .methodLink RJ4 333 yJ5_setLength_d00df, .sameMethod "java/lang/AbstractStringBuilder" "java/lang/AbstractStringBuilder" "setLength" "(I)V", .instanceMethod yJ5_setLength_d00df, .code yJ5_setLength_d00df cJ5_setLength_d00df 2 none, .fieldLink RJ5 73 "java/lang/AbstractStringBuilder" "maybeLatin1" "Z"] : List Cond) ++ wsX60 ++ wsJ00 ++ wsJ40 ++ wsX50)
theorem gs_wq_X6_takeWord_wsJ00 : GoodIn wq_X6_takeWord wsJ00 := fun w h => ⟨List.mem_cons_of_mem _ (List.mem_append_left _ (List.mem_append_left _ (List.mem_append_right _ h))), (gt_wsJ00 w h).2⟩
theorem gs_wq_X6_takeWord_wsJ40 : GoodIn wq_X6_takeWord wsJ40 := fun w h => ⟨List.mem_cons_of_mem _ (List.mem_append_left _ (List.mem_append_right _ h)), (gt_wsJ40 w h).2⟩
set_option maxRecDepth 20000 in
theorem gq_X6_takeWord_J4_toString_0e30d_182 : GoodIn wq_X6_takeWord (wsV RX6 182 RJ4 yJ4_toString_0e30d wq_J4_toString_0e30d) := goodIn_app (goodIn_r _ [4, 5, 6, 7] rfl rfl) (goodIn_ca (goodIn_ca (goodIn_r _ [28, 29, 30, 31, 32, 33, 34, 35, 36, 37, 38, 39, 40, 41, 42, 43, 44, 45, 46, 47, 48, 49, 50, 51, 52, 53, 54, 9, 7, 55, 56, 57, 58, 59, 60, 61, 62, 63, 64, 65, 66, 67, 68, 69, 70, 71, 72, 73, 74, 75, 76, 77, 78, 79, 80, 81, 82, 83, 84, 85, 86, 87, 88, 89, 90] rfl rfl) gs_wq_X6_takeWord_wsJ00) gs_wq_X6_takeWord_wsJ40)
set_option maxRecDepth 20000 in
theorem gq_X6_takeWord_J4_length_8abf5_188 : GoodIn wq_X6_takeWord (wsV RX6 188 RJ4 yJ4_length_8abf5 wq_J4_length_8abf5) := goodIn_app (goodIn_r _ [8, 9, 10, 7] rfl rfl) (goodIn_ca (goodIn_r _ [84, 85, 52, 86, 53, 50, 87, 88] rfl rfl) gs_wq_X6_takeWord_wsJ40)
set_option maxRecDepth 20000 in
theorem gq_X6_takeWord_J4_append_cf468_178 : GoodIn wq_X6_takeWord (wsV RX6 178 RJ4 yJ4_append_cf468 wq_J4_append_cf468) := goodIn_app (goodIn_r _ [11, 12, 13, 7] rfl rfl) (goodIn_ca (goodIn_r _ [91, 92, 93, 86, 94, 50, 95, 88, 90, 96, 97, 98, 99, 47, 48, 49, 100, 101, 102, 103, 104, 81, 82, 83, 105, 106, 107, 45, 108, 109, 110, 111, 112, 69, 70, 71, 72, 73, 74, 75, 76, 77, 113, 114, 115, 116, 117, 118, 119, 120, 121, 122] rfl rfl) gs_wq_X6_takeWord_wsJ40)
theorem gs_wq_X6_takeWord_wsX50 : GoodIn wq_X6_takeWord wsX50 := fun w h => ⟨List.mem_cons_of_mem _ (List.mem_append_right _ h), (gt_wsX50 w h).2⟩
set_option maxRecDepth 20000 in
theorem gq_X6_takeWord_X5_byteAt_150 : GoodIn wq_X6_takeWord (wsV RX6 150 RX5 yX5_byteAt wq_X5_byteAt) := goodIn_app (goodIn_r _ [14, 15, 16, 17] rfl rfl) (goodIn_ca (goodIn_r _ [123, 124, 125] rfl rfl) gs_wq_X6_takeWord_wsX50)
theorem gs_wq_X6_takeWord_wsX60 : GoodIn wq_X6_takeWord wsX60 := fun w h => ⟨List.mem_cons_of_mem _ (List.mem_append_left _ (List.mem_append_left _ (List.mem_append_left _ (List.mem_append_right _ h)))), (gt_wsX60 w h).2⟩
set_option maxRecDepth 20000 in
theorem gq_X6_takeWord_X6_isLetter_108 : GoodIn wq_X6_takeWord (wsV RX6 108 RX6 yX6_isLetter wq_X6_isLetter) := goodIn_app (goodIn_r _ [18, 19, 20, 21] rfl rfl) (goodIn_ca (goodIn_ca (goodIn_r _ [126, 3, 14, 15, 16, 17, 123, 124, 125] rfl rfl) gs_wq_X6_takeWord_wsX60) gs_wq_X6_takeWord_wsX50)
set_option maxRecDepth 20000 in
theorem gq_X6_takeWord_X5_size_42 : GoodIn wq_X6_takeWord (wsV RX6 42 RX5 yX5_size wq_X5_size) := goodIn_app (goodIn_r _ [22, 23, 24, 17] rfl rfl) (goodIn_ca (goodIn_r _ [127, 124] rfl rfl) gs_wq_X6_takeWord_wsX50)
set_option maxRecDepth 20000 in
theorem gq_X6_takeWord_J4_setLength_d00df_171 : GoodIn wq_X6_takeWord (wsV RX6 171 RJ4 yJ4_setLength_d00df wq_J4_setLength_d00df) := goodIn_app (goodIn_r _ [25, 26, 27, 7] rfl rfl) (goodIn_ca (goodIn_r _ [128, 129, 130, 86, 131, 50, 132, 88, 133, 100, 101, 102, 103, 105, 90, 83, 106, 107, 45, 108, 109, 110, 111, 112, 69, 70, 71, 72, 73, 74, 75, 76, 77, 113, 114, 115, 116, 117, 118, 119, 120, 121, 122] rfl rfl) gs_wq_X6_takeWord_wsJ40)
set_option maxHeartbeats 4000000 in
set_option maxRecDepth 100000 in
theorem c_X6_takeWord (l : Launch) (dC : Nat → ClassId) (dI : Nat → Nat → Nat) (ka ad : Nat → Nat) (ct : Nat → ClassId) (h0 : Nat) (st st' : CS) (r : Option Nat) (hf : fX6_takeWord h0 st = some (r, st')) (sz : Nat) : Met l yX6_takeWord wq_X6_takeWord ({ frames := 6, cells := (qn st' - qn st), slots := (qs st' - qs st), locals := 176 }) (va_Pc [.ref (ad h0)] (PrC (dC, dI) ct ka ad st sz)) (va_Qq (fun r' (_ : Unit) => r' = Option.map ad r) (fun _ => CB (dC, dI) ct ka ad st' (aC ad st sz)) (aC ad st sz)) (qn st' - qn st) (qs st' - qs st) (aC ad st sz) := by
  refine Met.ofW (cc := cX6_takeWord) (maxL := 2) (ret := (some (.object "java/lang/String"))) (by decide) rfl ?_
  intro p e s m args below meth c s₁ B hml hv
  obtain ⟨rfl, hsz, hw0, hK, hN, hZ, hC, hR, hL, hw1, hw2⟩ := hv
  have hx := B.exec
  have hb := B.bytes
  have hr := B.returns
  have hts := atoms_spec (ws := wq_X6_takeWord) B.pre
  have hown : s.vm.findClass RX6 = some m.cls := findClass_of_methodNamed B.named
  have iRX6 : ∀ w ∈ u_ws RX6 TX6 6, w ∈ wq_X6_takeWord := fun w h => List.mem_cons_of_mem _ (List.mem_append_left _ (List.mem_append_left _ (List.mem_append_left _ (List.mem_append_right _ h))))
  subst hsz
  have hp : Cp (dC, dI) ka ad ct (aC ad st s.heap.size) s.heap st s.heap [] := ⟨fun i a b => ⟨hw0 i a b, Or.inl ⟨i, a, b, rfl⟩⟩, va_S.rf, hw1, hw2⟩
  generalize hAe : aC ad st s.heap.size = A at hp hZ hC ⊢
  have hA : ∀ q : Nat, s.heap.size ≤ q → A q := fun q h => by rw [← hAe]; exact Or.inr h
  have hl := lv_entry ([.ref (ad h0)]) (n := 2) (Nat.le_of_ble_eq_true rfl)
  rw [lg_entry_eq]
  generalize (lg_sl ([.ref (ad h0)]) ++ List.replicate (2 - (lg_sl ([.ref (ad h0)])).length) Slot.unset).toArray = ls at hl ⊢
  have hl : lv_has ls 2 [(0, .ref (ad h0))] := hl
  have hm : Mo st st := Mo.rf
  refine W.widen (k := qn st - qn st) (n := qs st - qs st) (Nat.zero_le _) (Nat.zero_le _) ?_
  refine W_blkA (fun (u : (Option Nat) × CS) H locs ls => match u with | (s0, gs) => fX6_takeWord_78 h0 s0 gs = some (r, st') ∧ Cp (dC, dI) ka ad ct A s.heap gs H locs ∧ lv_has ls 2 [] ∧ Mo st gs) (fun (u : (Option Nat) × CS) ls => match u with | (s0, gs) => F0 m 78 ls [va_rf (Option.map ad s0)]) (fun (u : (Option Nat) × CS) => match u with | (s0, gs) => qn gs - qn st) (fun (u : (Option Nat) × CS) => match u with | (s0, gs) => qs gs - qs st) ?_ (fun J78 => ?_)
  · intro u H locs ls hu
    obtain ⟨s0, gs⟩ := u
    obtain ⟨hf, hp, hl, hm⟩ := hu
    show W p l e _ s m _ below meth c _ _ (qn gs - qn st) (qs gs - qs st) _ (F0 m 78 ls [va_rf (Option.map ad s0)])
    unfold fX6_takeWord_78 at hf
    obtain ⟨e1, e2⟩ := pr_some hf
    refine W.widen (k := qn st' - qn st) (n := qs st' - qs st) (by rw [e2]; exact Nat.le_refl _) (by rw [e2]; exact Nat.le_refl _) ?_
    exact W.aret (v := va_rf (Option.map ad s0)) hx hb hr (Or.inl ⟨_, rfl⟩) (rf_or _) (fun t ht hW => ⟨⟨Option.map ad s0, (), rfl, by rw [e1], Cp.end e2 hp ht⟩, hp.2.1.F ht⟩) hp.2.1.2.2 dX6_takeWord_78
  refine W_blkA (fun (u : Int32 × Int32 × CS) H locs ls => match u with | (s0, s1, gs) => fX6_takeWord_67 h0 s0 s1 gs = some (r, st') ∧ Cp (dC, dI) ka ad ct A s.heap gs H locs ∧ lv_has ls 2 [(0, .ref (ad h0))] ∧ Mo st gs) (fun (u : Int32 × Int32 × CS) ls => match u with | (s0, s1, gs) => F0 m 67 ls [.int s0, .int s1, .ref (ad h0)]) (fun (u : Int32 × Int32 × CS) => match u with | (s0, s1, gs) => qn gs - qn st) (fun (u : Int32 × Int32 × CS) => match u with | (s0, s1, gs) => qs gs - qs st) ?_ (fun J67 => ?_)
  · intro u H locs ls hu
    obtain ⟨s0, s1, gs⟩ := u
    obtain ⟨hf, hp, hl, hm⟩ := hu
    show W p l e _ s m _ below meth c _ _ (qn gs - qn st) (qs gs - qs st) _ (F0 m 67 ls [.int s0, .int s1, .ref (ad h0)])
    unfold fX6_takeWord_67 at hf
    refine lv_iadd hx hb dX6_takeWord_67 ?_
    obtain ⟨hk_1, hf⟩ := gd_some hf
    refine q_pi (ci := 8) (C := RX6) (T := TX6) (N := 6) (k := 3) (v := s1 + s0) (ty := .int) hx hb hts iRX6 tyX6 tyX6_ok nmX6 hown hK hp hk_1 (by decide) rfl rfl (by decide) rfl (Or.inl (hts (.fieldLink RX6 26 "RecordBench$TextReader" "pos" "I") (by decide +kernel))) (fun _ h9 => h9) rfl (by decide +kernel) rfl rfl dX6_takeWord_68 (fun H locs hp => ?_)
    obtain ⟨st_2, est_2, hf⟩ := nam_some hf
    rw [← est_2] at hp
    have hm := hm.wI est_2
    refine W.widen (k := qn st_2 - qn st) (n := qs st_2 - qs st) (by rw [est_2]; exact Nat.le_refl _) (by rw [est_2]; exact Nat.le_refl _) ?_
    have hk_1 : qk st_2 h0 = 9 := by rw [est_2]; exact hk_1
    refine lv_aload_n hx hb dX6_takeWord_71 rfl (lv_at hl 0 rfl) ?_
    refine q_gp (ci := 8) (C := RX6) (T := TX6) (N := 6) (k := 2) hx hb hts iRX6 hown hK hp hk_1 (by decide) rfl rfl (by decide) rfl (Or.inl (hts (.fieldLink RX6 22 "RecordBench$TextReader" "letters" "Ljava/lang/StringBuilder;") (by decide +kernel))) (fun _ h9 => h9) dX6_takeWord_72 ?_
    obtain ⟨a_3, ha_4, hf⟩ := ono_some hf
    refine o_at ha_4 ?_
    obtain ⟨hk_5, hf⟩ := gd_some hf
    obtain ⟨r_8, st_6, hc_7, hf⟩ := bnd_some hf
    have lthk_1 := hp.2.2.1.lt (i := h0) (by rw [hk_1]; decide)
    have lthk_5 := hp.2.2.1.lt (i := a_3) (by rw [hk_5]; decide)
    have hmc := (mo_J4_toString_0e30d a_3 _ _ _ hc_7)
    have hmr := mo_X6_takeWord_78 h0 _ _ _ _ hf
    refine q_cq hp hA (va_runV (As := []) (rest := []) ⟨hx, hb, hml, hown, hts⟩ (c_J4_toString_0e30d l dC dI ka ad ct a_3 _ _ _ hc_7 _) (cwV 0 hts gq_X6_takeWord_J4_toString_0e30d_182 rfl rfl rfl (by decide +kernel) ⟨Nat.le_of_ble_eq_true rfl, Nat.le_of_ble_eq_true rfl⟩) ⟨PrC.blind _, q_rv1 hK hp hC hk_5, q_pre hp hK hN hZ hC hR hL hA⟩ rfl rfl hl.1 rfl (lv_room (Nat.le_of_ble_eq_true rfl)) dX6_takeWord_75 ⟨by show qn st_2 - qn st + (qn st_6 - qn st_2) ≤ qn st' - qn st; have := hmr.1; have := hm.1; have := hmc.1; omega, by show qs st_2 - qs st + (qs st_6 - qs st_2) ≤ qs st' - qs st; have := hmr.2.1; have := hm.2.1; have := hmc.2.1; omega⟩) (fun H locs hp => ?_)
    have hk_1 : qk st_6 h0 = 9 := ((mo_J4_toString_0e30d a_3 _ _ _ hc_7).2.2 _ lthk_1).1.trans hk_1
    have hk_5 : qk st_6 a_3 = 2 := ((mo_J4_toString_0e30d a_3 _ _ _ hc_7).2.2 _ lthk_5).1.trans hk_5
    refine W.widen (k := qn st_6 - qn st) (n := qs st_6 - qs st) (by have := hm.1; have := hmc.1; omega) (by have := hm.2.1; have := hmc.2.1; omega) ?_
    have hm := hm.tr hmc
    exact J78 (r_8, st_6) _ _ _ ⟨hf, hp, (lv_sub hl [] rfl), hm⟩
  refine W_blkA (fun (gs : CS) H locs ls => fX6_takeWord_55 h0 gs = some (r, st') ∧ Cp (dC, dI) ka ad ct A s.heap gs H locs ∧ lv_has ls 2 [(0, .ref (ad h0))] ∧ Mo st gs) (fun (gs : CS) ls => F0 m 55 ls []) (fun (gs : CS) => qn gs - qn st) (fun (gs : CS) => qs gs - qs st) ?_ (fun J55 => ?_)
  · intro u H locs ls hu
    obtain ⟨gs, rfl⟩ : ∃ z, z = u := ⟨_, rfl⟩
    obtain ⟨hf, hp, hl, hm⟩ := hu
    show W p l e _ s m _ below meth c _ _ (qn gs - qn st) (qs gs - qs st) _ (F0 m 55 ls [])
    unfold fX6_takeWord_55 at hf
    refine lv_aload_n hx hb dX6_takeWord_55 rfl (lv_at hl 0 rfl) ?_
    refine lv_dup hx hb dX6_takeWord_56 rfl ?_
    obtain ⟨hk_9, hf⟩ := gd_some hf
    refine q_gi (ci := 8) (C := RX6) (T := TX6) (N := 6) (k := 3) hx hb hts iRX6 hown hK hp hk_9 (by decide) rfl rfl (by decide) rfl (Or.inl (hts (.fieldLink RX6 26 "RecordBench$TextReader" "pos" "I") (by decide +kernel))) (fun _ h9 => h9) dX6_takeWord_57 ?_
    refine lv_aload_n hx hb dX6_takeWord_60 rfl (lv_at hl 0 rfl) ?_
    refine q_gp (ci := 8) (C := RX6) (T := TX6) (N := 6) (k := 2) hx hb hts iRX6 hown hK hp hk_9 (by decide) rfl rfl (by decide) rfl (Or.inl (hts (.fieldLink RX6 22 "RecordBench$TextReader" "letters" "Ljava/lang/StringBuilder;") (by decide +kernel))) (fun _ h9 => h9) dX6_takeWord_61 ?_
    obtain ⟨a_10, ha_11, hf⟩ := ono_some hf
    refine o_at ha_11 ?_
    obtain ⟨hk_12, hf⟩ := gd_some hf
    obtain ⟨r_15, st_13, hc_14, hf⟩ := bnd_some hf
    have hmc := (mo_J4_length_8abf5 a_10 _ _ _ hc_14).mo
    have hmr := mo_X6_takeWord_67 h0 _ _ _ _ _ hf
    refine q_ci hp hA (va_runV (As := []) (rest := [.int (qI gs h0 3), .ref (ad h0)]) ⟨hx, hb, hml, hown, hts⟩ (c_J4_length_8abf5 l dC dI ka ad ct a_10 _ _ _ hc_14 _) (cwV 0 hts gq_X6_takeWord_J4_length_8abf5_188 rfl rfl rfl (by decide +kernel) ⟨Nat.le_of_ble_eq_true rfl, Nat.le_of_ble_eq_true rfl⟩) ⟨PrC.blind _, q_rv1 hK hp hC hk_12, q_pre hp hK hN hZ hC hR hL hA⟩ rfl rfl hl.1 rfl (lv_room (Nat.le_of_ble_eq_true rfl)) dX6_takeWord_64 ⟨by show qn gs - qn st + 0 ≤ qn st' - qn st; have := hmr.1; have := hm.1; have := hmc.1; omega, by show qs gs - qs st + 0 ≤ qs st' - qs st; have := hmr.2.1; have := hm.2.1; have := hmc.2.1; omega⟩) (fun H locs hp => ?_)
    have hk_9 : qk st_13 h0 = 9 := by rw [(mo_J4_length_8abf5 a_10 _ _ _ hc_14).2.2.1]; exact hk_9
    have hk_12 : qk st_13 a_10 = 2 := by rw [(mo_J4_length_8abf5 a_10 _ _ _ hc_14).2.2.1]; exact hk_12
    refine W.widen (k := qn st_13 - qn st) (n := qs st_13 - qs st) (by have := hmc.1; omega) (by have := hmc.2.1; omega) ?_
    have hm := hm.tr hmc
    exact J67 (r_15, (qI gs h0 3), st_13) _ _ _ ⟨hf, hp, (lv_sub hl [0] rfl), hm⟩
  refine W_lpA (fun n13 (u : Int32 × CS) H locs ls => match u with | (l1, gs) => fX6_takeWord_13 h0 n13 l1 gs = some (r, st') ∧ Cp (dC, dI) ka ad ct A s.heap gs H locs ∧ lv_has ls 2 [(0, .ref (ad h0)), (1, .int l1)] ∧ Mo st gs) (fun (u : Int32 × CS) ls => match u with | (l1, gs) => F0 m 13 ls []) (fun (u : Int32 × CS) => match u with | (l1, gs) => qn gs - qn st) (fun (u : Int32 × CS) => match u with | (l1, gs) => qs gs - qs st) ?_ ?_ (fun J13 => ?_)
  · intro u H locs ls hu
    obtain ⟨l1, gs⟩ := u
    obtain ⟨hf, hp, hl, hm⟩ := hu
    rw [fX6_takeWord_13_z] at hf
    cases hf
  · intro n13 ih13 u H locs ls hu
    obtain ⟨l1, gs⟩ := u
    obtain ⟨hf, hp, hl, hm⟩ := hu
    show W p l e _ s m _ below meth c _ _ (qn gs - qn st) (qs gs - qs st) _ (F0 m 13 ls [])
    refine W_blkA (fun (u : Int32 × (Option Nat) × CS) H locs ls => match u with | (l1, s0, gs) => fX6_takeWord_48 h0 (fX6_takeWord_13 h0 n13) l1 s0 gs = some (r, st') ∧ Cp (dC, dI) ka ad ct A s.heap gs H locs ∧ lv_has ls 2 [(0, .ref (ad h0)), (1, .int l1)] ∧ Mo st gs) (fun (u : Int32 × (Option Nat) × CS) ls => match u with | (l1, s0, gs) => F0 m 48 ls [va_rf (Option.map ad s0)]) (fun (u : Int32 × (Option Nat) × CS) => match u with | (l1, s0, gs) => qn gs - qn st) (fun (u : Int32 × (Option Nat) × CS) => match u with | (l1, s0, gs) => qs gs - qs st) ?_ (fun J48 => ?_)
    · intro u H locs ls hu
      obtain ⟨l1, s0, gs⟩ := u
      obtain ⟨hf, hp, hl, hm⟩ := hu
      show W p l e _ s m _ below meth c _ _ (qn gs - qn st) (qs gs - qs st) _ (F0 m 48 ls [va_rf (Option.map ad s0)])
      unfold fX6_takeWord_48 at hf
      refine lv_pop hx hb dX6_takeWord_48 (rf_cat _) ?_
      obtain ⟨v_16, ev_16, hf⟩ := nam_some hf
      refine lv_iinc (v := v_16) (lv' := [(1, .int v_16), (0, .ref (ad h0))]) hx hb dX6_takeWord_49 hl (k := 1) rfl ev_16.symm (by decide) rfl (fun ls hl => ?_)
      refine lv_goto (tgt := 13) hx hb dX6_takeWord_52 (by decide) ?_
      exact ih13 (v_16, gs) _ _ _ ⟨hf, hp, (lv_sub hl [1, 0] rfl), hm⟩
    refine W_blkA (fun (u : Int32 × Int32 × (Option Nat) × CS) H locs ls => match u with | (l1, s0, s1, gs) => fX6_takeWord_44 h0 (fX6_takeWord_13 h0 n13) l1 s0 s1 gs = some (r, st') ∧ Cp (dC, dI) ka ad ct A s.heap gs H locs ∧ lv_has ls 2 [(0, .ref (ad h0)), (1, .int l1)] ∧ Mo st gs) (fun (u : Int32 × Int32 × (Option Nat) × CS) ls => match u with | (l1, s0, s1, gs) => F0 m 44 ls [.int s0, va_rf (Option.map ad s1)]) (fun (u : Int32 × Int32 × (Option Nat) × CS) => match u with | (l1, s0, s1, gs) => qn gs - qn st) (fun (u : Int32 × Int32 × (Option Nat) × CS) => match u with | (l1, s0, s1, gs) => qs gs - qs st) ?_ (fun J44 => ?_)
    · intro u H locs ls hu
      obtain ⟨l1, s0, s1, gs⟩ := u
      obtain ⟨hf, hp, hl, hm⟩ := hu
      show W p l e _ s m _ below meth c _ _ (qn gs - qn st) (qs gs - qs st) _ (F0 m 44 ls [.int s0, va_rf (Option.map ad s1)])
      unfold fX6_takeWord_44 at hf
      refine lv_i2c (v := (s0.toUInt32 % 65536).toInt32) hx hb dX6_takeWord_44 rfl ?_
      obtain ⟨a_17, ha_18, hf⟩ := ono_some hf
      refine o_at1 ha_18 ?_
      obtain ⟨hk_19, hf⟩ := gd_some hf
      obtain ⟨r_22, st_20, hc_21, hf⟩ := bnd_some hf
      have lthk_19 := hp.2.2.1.lt (i := a_17) (by rw [hk_19]; decide)
      have hmc := (mo_J4_append_cf468 a_17 ((s0.toUInt32 % 65536).toInt32) _ _ _ hc_21)
      have hmr := mo_X6_takeWord_48 h0 (fX6_takeWord_13 h0 n13) (mo_X6_takeWord_13 h0 n13) _ _ _ _ _ hf
      refine q_cq hp hA (va_runV (As := [.int ((s0.toUInt32 % 65536).toInt32)]) (rest := []) ⟨hx, hb, hml, hown, hts⟩ (c_J4_append_cf468 l dC dI ka ad ct a_17 ((s0.toUInt32 % 65536).toInt32) _ _ _ hc_21 _) (cwV 1 hts gq_X6_takeWord_J4_append_cf468_178 rfl rfl rfl (by decide +kernel) ⟨Nat.le_of_ble_eq_true rfl, Nat.le_of_ble_eq_true rfl⟩) ⟨PrC.blind _, q_rv1 hK hp hC hk_19, q_pre hp hK hN hZ hC hR hL hA⟩ rfl rfl hl.1 rfl (lv_room (Nat.le_of_ble_eq_true rfl)) dX6_takeWord_45 ⟨by show qn gs - qn st + (qn st_20 - qn gs) ≤ qn st' - qn st; have := hmr.1; have := hm.1; have := hmc.1; omega, by show qs gs - qs st + (qs st_20 - qs gs) ≤ qs st' - qs st; have := hmr.2.1; have := hm.2.1; have := hmc.2.1; omega⟩) (fun H locs hp => ?_)
      have hk_19 : qk st_20 a_17 = 2 := ((mo_J4_append_cf468 a_17 ((s0.toUInt32 % 65536).toInt32) _ _ _ hc_21).2.2 _ lthk_19).1.trans hk_19
      refine W.widen (k := qn st_20 - qn st) (n := qs st_20 - qs st) (by have := hm.1; have := hmc.1; omega) (by have := hm.2.1; have := hmc.2.1; omega) ?_
      have hm := hm.tr hmc
      exact J48 (l1, r_22, st_20) _ _ _ ⟨hf, hp, (lv_sub hl [0, 1] rfl), hm⟩
    refine W_blkA (fun (u : Int32 × Int32 × CS) H locs ls => match u with | (l1, s0, gs) => fX6_takeWord_29 h0 (fX6_takeWord_13 h0 n13) l1 s0 gs = some (r, st') ∧ Cp (dC, dI) ka ad ct A s.heap gs H locs ∧ lv_has ls 2 [(0, .ref (ad h0)), (1, .int l1)] ∧ Mo st gs) (fun (u : Int32 × Int32 × CS) ls => match u with | (l1, s0, gs) => F0 m 29 ls [.int s0]) (fun (u : Int32 × Int32 × CS) => match u with | (l1, s0, gs) => qn gs - qn st) (fun (u : Int32 × Int32 × CS) => match u with | (l1, s0, gs) => qs gs - qs st) ?_ (fun J29 => ?_)
    · intro u H locs ls hu
      obtain ⟨l1, s0, gs⟩ := u
      obtain ⟨hf, hp, hl, hm⟩ := hu
      show W p l e _ s m _ below meth c _ _ (qn gs - qn st) (qs gs - qs st) _ (F0 m 29 ls [.int s0])
      unfold fX6_takeWord_29 at hf
      refine lv_if_eq (tgt := 55) hx hb dX6_takeWord_29 (by decide) (fun c_23 => ?_) (fun c_23 => ?_)
      · have hf := pif_t c_23 hf
        exact J55 gs _ _ _ ⟨hf, hp, (lv_sub hl [0] rfl), hm⟩
      · have hf := pif_f c_23 hf
        refine lv_aload_n hx hb dX6_takeWord_32 rfl (lv_at hl 0 rfl) ?_
        obtain ⟨hk_24, hf⟩ := gd_some hf
        refine q_gp (ci := 8) (C := RX6) (T := TX6) (N := 6) (k := 2) hx hb hts iRX6 hown hK hp hk_24 (by decide) rfl rfl (by decide) rfl (Or.inl (hts (.fieldLink RX6 22 "RecordBench$TextReader" "letters" "Ljava/lang/StringBuilder;") (by decide +kernel))) (fun _ h9 => h9) dX6_takeWord_33 ?_
        refine lv_aload_n hx hb dX6_takeWord_36 rfl (lv_at hl 0 rfl) ?_
        refine q_gp (ci := 8) (C := RX6) (T := TX6) (N := 6) (k := 0) hx hb hts iRX6 hown hK hp hk_24 (by decide) rfl rfl (by decide) rfl (Or.inl (hts (.fieldLink RX6 9 "RecordBench$TextReader" "tape" "LRecordBench$Row;") (by decide +kernel))) (fun _ h9 => h9) dX6_takeWord_37 ?_
        refine lv_iload_n hx hb dX6_takeWord_40 rfl (lv_at hl 1 rfl) ?_
        obtain ⟨a_25, ha_26, hf⟩ := ono_some hf
        refine o_at1 ha_26 ?_
        obtain ⟨hk_27, hf⟩ := gd_some hf
        obtain ⟨r_30, st_28, hc_29, hf⟩ := bnd_some hf
        have hmc := (mo_X5_byteAt a_25 l1 _ _ _ hc_29).mo
        have hmr := mo_X6_takeWord_44 h0 (fX6_takeWord_13 h0 n13) (mo_X6_takeWord_13 h0 n13) _ _ _ _ _ _ hf
        refine q_ci hp hA (va_runV (As := [.int l1]) (rest := [va_rf (Option.map ad (qP gs h0 2))]) ⟨hx, hb, hml, hown, hts⟩ (c_X5_byteAt l dC dI ka ad ct a_25 l1 _ _ _ hc_29 _) (cwV 1 hts gq_X6_takeWord_X5_byteAt_150 rfl rfl rfl (by decide +kernel) ⟨Nat.le_of_ble_eq_true rfl, Nat.le_of_ble_eq_true rfl⟩) ⟨PrC.blind _, q_rv7 hK hp hC hk_27, q_pre hp hK hN hZ hC hR hL hA⟩ rfl rfl hl.1 rfl (lv_room (by simp [rf_cat, vc_i, vc_l, vc_r, vc_n])) dX6_takeWord_41 ⟨by show qn gs - qn st + 0 ≤ qn st' - qn st; have := hmr.1; have := hm.1; have := hmc.1; omega, by show qs gs - qs st + 0 ≤ qs st' - qs st; have := hmr.2.1; have := hm.2.1; have := hmc.2.1; omega⟩) (fun H locs hp => ?_)
        have hk_24 : qk st_28 h0 = 9 := by rw [(mo_X5_byteAt a_25 l1 _ _ _ hc_29).2.2.1]; exact hk_24
        have hk_27 : qk st_28 a_25 = 8 := by rw [(mo_X5_byteAt a_25 l1 _ _ _ hc_29).2.2.1]; exact hk_27
        refine W.widen (k := qn st_28 - qn st) (n := qs st_28 - qs st) (by have := hmc.1; omega) (by have := hmc.2.1; omega) ?_
        have hm := hm.tr hmc
        exact J44 (l1, r_30, (qP gs h0 2), st_28) _ _ _ ⟨hf, hp, (lv_sub hl [0, 1] rfl), hm⟩
    refine W_blkA (fun (u : Int32 × Int32 × Int32 × CS) H locs ls => match u with | (l1, s0, s1, gs) => fX6_takeWord_21 h0 (fX6_takeWord_13 h0 n13) l1 s0 s1 gs = some (r, st') ∧ Cp (dC, dI) ka ad ct A s.heap gs H locs ∧ lv_has ls 2 [(0, .ref (ad h0)), (1, .int l1)] ∧ Mo st gs) (fun (u : Int32 × Int32 × Int32 × CS) ls => match u with | (l1, s0, s1, gs) => F0 m 21 ls [.int s0, .int s1]) (fun (u : Int32 × Int32 × Int32 × CS) => match u with | (l1, s0, s1, gs) => qn gs - qn st) (fun (u : Int32 × Int32 × Int32 × CS) => match u with | (l1, s0, s1, gs) => qs gs - qs st) ?_ (fun J21 => ?_)
    · intro u H locs ls hu
      obtain ⟨l1, s0, s1, gs⟩ := u
      obtain ⟨hf, hp, hl, hm⟩ := hu
      show W p l e _ s m _ below meth c _ _ (qn gs - qn st) (qs gs - qs st) _ (F0 m 21 ls [.int s0, .int s1])
      unfold fX6_takeWord_21 at hf
      refine lv_icmp_ge (tgt := 55) hx hb dX6_takeWord_21 (by decide) (fun c_31 => ?_) (fun c_31 => ?_)
      · have hf := pif_t c_31 hf
        exact J55 gs _ _ _ ⟨hf, hp, (lv_sub hl [0] rfl), hm⟩
      · have hf := pif_f c_31 hf
        refine lv_aload_n hx hb dX6_takeWord_24 rfl (lv_at hl 0 rfl) ?_
        refine lv_iload_n hx hb dX6_takeWord_25 rfl (lv_at hl 1 rfl) ?_
        obtain ⟨hk_32, hf⟩ := gd_some hf
        obtain ⟨r_35, st_33, hc_34, hf⟩ := bnd_some hf
        have hmc := (mo_X6_isLetter h0 l1 _ _ _ hc_34).mo
        have hmr := mo_X6_takeWord_29 h0 (fX6_takeWord_13 h0 n13) (mo_X6_takeWord_13 h0 n13) _ _ _ _ _ hf
        refine q_ci hp hA (va_runV (As := [.int l1]) (rest := []) ⟨hx, hb, hml, hown, hts⟩ (c_X6_isLetter l dC dI ka ad ct h0 l1 _ _ _ hc_34 _) (cwV 1 hts gq_X6_takeWord_X6_isLetter_108 rfl rfl rfl (by decide +kernel) ⟨Nat.le_of_ble_eq_true rfl, Nat.le_of_ble_eq_true rfl⟩) ⟨PrC.blind _, q_rv8 hK hp hC hk_32, q_pre hp hK hN hZ hC hR hL hA⟩ rfl rfl hl.1 rfl (lv_room (Nat.le_of_ble_eq_true rfl)) dX6_takeWord_26 ⟨by show qn gs - qn st + 0 ≤ qn st' - qn st; have := hmr.1; have := hm.1; have := hmc.1; omega, by show qs gs - qs st + 0 ≤ qs st' - qs st; have := hmr.2.1; have := hm.2.1; have := hmc.2.1; omega⟩) (fun H locs hp => ?_)
        have hk_32 : qk st_33 h0 = 9 := by rw [(mo_X6_isLetter h0 l1 _ _ _ hc_34).2.2.1]; exact hk_32
        refine W.widen (k := qn st_33 - qn st) (n := qs st_33 - qs st) (by have := hmc.1; omega) (by have := hmc.2.1; omega) ?_
        have hm := hm.tr hmc
        exact J29 (l1, r_35, st_33) _ _ _ ⟨hf, hp, (lv_sub hl [0, 1] rfl), hm⟩
    rw [fX6_takeWord_13_s] at hf
    refine lv_iload_n hx hb dX6_takeWord_13 rfl (lv_at hl 1 rfl) ?_
    refine lv_aload_n hx hb dX6_takeWord_14 rfl (lv_at hl 0 rfl) ?_
    obtain ⟨hk_36, hf⟩ := gd_some hf
    refine q_gp (ci := 8) (C := RX6) (T := TX6) (N := 6) (k := 0) hx hb hts iRX6 hown hK hp hk_36 (by decide) rfl rfl (by decide) rfl (Or.inl (hts (.fieldLink RX6 9 "RecordBench$TextReader" "tape" "LRecordBench$Row;") (by decide +kernel))) (fun _ h9 => h9) dX6_takeWord_15 ?_
    obtain ⟨a_37, ha_38, hf⟩ := ono_some hf
    refine o_at ha_38 ?_
    obtain ⟨hk_39, hf⟩ := gd_some hf
    obtain ⟨r_42, st_40, hc_41, hf⟩ := bnd_some hf
    have hmc := (mo_X5_size a_37 _ _ _ hc_41).mo
    have hmr := mo_X6_takeWord_21 h0 (fX6_takeWord_13 h0 n13) (mo_X6_takeWord_13 h0 n13) _ _ _ _ _ _ hf
    refine q_ci hp hA (va_runV (As := []) (rest := [.int l1]) ⟨hx, hb, hml, hown, hts⟩ (c_X5_size l dC dI ka ad ct a_37 _ _ _ hc_41 _) (cwV 0 hts gq_X6_takeWord_X5_size_42 rfl rfl rfl (by decide +kernel) ⟨Nat.le_of_ble_eq_true rfl, Nat.le_of_ble_eq_true rfl⟩) ⟨PrC.blind _, q_rv7 hK hp hC hk_39, q_pre hp hK hN hZ hC hR hL hA⟩ rfl rfl hl.1 rfl (lv_room (Nat.le_of_ble_eq_true rfl)) dX6_takeWord_18 ⟨by show qn gs - qn st + 0 ≤ qn st' - qn st; have := hmr.1; have := hm.1; have := hmc.1; omega, by show qs gs - qs st + 0 ≤ qs st' - qs st; have := hmr.2.1; have := hm.2.1; have := hmc.2.1; omega⟩) (fun H locs hp => ?_)
    have hk_36 : qk st_40 h0 = 9 := by rw [(mo_X5_size a_37 _ _ _ hc_41).2.2.1]; exact hk_36
    have hk_39 : qk st_40 a_37 = 8 := by rw [(mo_X5_size a_37 _ _ _ hc_41).2.2.1]; exact hk_39
    refine W.widen (k := qn st_40 - qn st) (n := qs st_40 - qs st) (by have := hmc.1; omega) (by have := hmc.2.1; omega) ?_
    have hm := hm.tr hmc
    exact J21 (l1, r_42, l1, st_40) _ _ _ ⟨hf, hp, (lv_sub hl [0, 1] rfl), hm⟩
  refine W_blkA (fun (gs : CS) H locs ls => fX6_takeWord_8 h0 gs = some (r, st') ∧ Cp (dC, dI) ka ad ct A s.heap gs H locs ∧ lv_has ls 2 [(0, .ref (ad h0))] ∧ Mo st gs) (fun (gs : CS) ls => F0 m 8 ls []) (fun (gs : CS) => qn gs - qn st) (fun (gs : CS) => qs gs - qs st) ?_ (fun J8 => ?_)
  · intro u H locs ls hu
    obtain ⟨gs, rfl⟩ : ∃ z, z = u := ⟨_, rfl⟩
    obtain ⟨hf, hp, hl, hm⟩ := hu
    show W p l e _ s m _ below meth c _ _ (qn gs - qn st) (qs gs - qs st) _ (F0 m 8 ls [])
    unfold fX6_takeWord_8 at hf
    refine lv_aload_n hx hb dX6_takeWord_8 rfl (lv_at hl 0 rfl) ?_
    obtain ⟨hk_43, hf⟩ := gd_some hf
    refine q_gi (ci := 8) (C := RX6) (T := TX6) (N := 6) (k := 3) hx hb hts iRX6 hown hK hp hk_43 (by decide) rfl rfl (by decide) rfl (Or.inl (hts (.fieldLink RX6 26 "RecordBench$TextReader" "pos" "I") (by decide +kernel))) (fun _ h9 => h9) dX6_takeWord_9 ?_
    obtain ⟨v_44, ev_44, hf⟩ := nam_some hf
    refine W_toi (y := v_44) ev_44.symm ?_
    refine lv_istore_n (i := 1) (lv' := [(1, .int v_44), (0, .ref (ad h0))]) hx hb dX6_takeWord_12 rfl hl (by decide) rfl (fun ls hl => ?_)
    exact J13 fuel (v_44, gs) _ _ _ ⟨hf, hp, (lv_sub hl [1, 0] rfl), hm⟩
  unfold fX6_takeWord at hf
  refine lv_aload_n hx hb dX6_takeWord_0 rfl (lv_at hl 0 rfl) ?_
  obtain ⟨hk_45, hf⟩ := gd_some hf
  refine q_gp (ci := 8) (C := RX6) (T := TX6) (N := 6) (k := 2) hx hb hts iRX6 hown hK hp hk_45 (by decide) rfl rfl (by decide) rfl (Or.inl (hts (.fieldLink RX6 22 "RecordBench$TextReader" "letters" "Ljava/lang/StringBuilder;") (by decide +kernel))) (fun _ h9 => h9) dX6_takeWord_1 ?_
  refine lv_iconst (v := 0) hx hb dX6_takeWord_4 (by decide) ?_
  obtain ⟨a_46, ha_47, hf⟩ := ono_some hf
  refine o_at1 ha_47 ?_
  obtain ⟨hk_48, hf⟩ := gd_some hf
  obtain ⟨st_49, hc_50, hf⟩ := bnv_some hf
  have lthk_45 := hp.2.2.1.lt (i := h0) (by rw [hk_45]; decide)
  have lthk_48 := hp.2.2.1.lt (i := a_46) (by rw [hk_48]; decide)
  have hmc := (mo_J4_setLength_d00df a_46 0 _ _ hc_50)
  have hmr := mo_X6_takeWord_8 h0  _ _ _ hf
  refine q_cv hp hA (va_runV (As := [.int 0]) (rest := []) ⟨hx, hb, hml, hown, hts⟩ (c_J4_setLength_d00df l dC dI ka ad ct a_46 0 _ _ hc_50 _) (cwV 1 hts gq_X6_takeWord_J4_setLength_d00df_171 rfl rfl rfl (by decide +kernel) ⟨Nat.le_of_ble_eq_true rfl, Nat.le_of_ble_eq_true rfl⟩) ⟨PrC.blind _, q_rv1 hK hp hC hk_48, q_pre hp hK hN hZ hC hR hL hA⟩ rfl rfl hl.1 rfl (lv_room (Nat.le_of_ble_eq_true rfl)) dX6_takeWord_5 ⟨by show qn st - qn st + (qn st_49 - qn st) ≤ qn st' - qn st; have := hmr.1; have := hm.1; have := hmc.1; omega, by show qs st - qs st + (qs st_49 - qs st) ≤ qs st' - qs st; have := hmr.2.1; have := hm.2.1; have := hmc.2.1; omega⟩) (fun H locs hp => ?_)
  have hk_45 : qk st_49 h0 = 9 := ((mo_J4_setLength_d00df a_46 0 _ _ hc_50).2.2 _ lthk_45).1.trans hk_45
  have hk_48 : qk st_49 a_46 = 2 := ((mo_J4_setLength_d00df a_46 0 _ _ hc_50).2.2 _ lthk_48).1.trans hk_48
  refine W.widen (k := qn st_49 - qn st) (n := qs st_49 - qs st) (by have := hm.1; have := hmc.1; omega) (by have := hm.2.1; have := hmc.2.1; omega) ?_
  have hm := hm.tr hmc
  exact J8 st_49 _ _ _ ⟨hf, hp, (lv_sub hl [0] rfl), hm⟩
noncomputable def fX6_takeText_149 (h0 : Nat)  (s0 : Option Nat) (s1 : Option Nat) (gs : CS) : Option (Int32 × CS) := ono s1 (fun a_1 => gd (qk gs a_1 = 3) (nam (wP gs a_1 5 s0) (fun st_4 => some ((1 : Int32), st_4))))
set_option maxHeartbeats 1000000 in
theorem mo_X6_takeText_149 (h0 : Nat)   (s0 : Option Nat) (s1 : Option Nat) (gs : CS) (r : Int32) (st' : CS) (hf : fX6_takeText_149 h0 s0 s1 gs = some (r, st')) : Mo gs st' := by
  unfold fX6_takeText_149 at hf
  have hm : Mo gs gs := Mo.rf
  obtain ⟨a_1, ha_2, hf⟩ := ono_some hf
  obtain ⟨hk_3, hf⟩ := gd_some hf
  obtain ⟨st_4, est_4, hf⟩ := nam_some hf
  have hm := hm.wP est_4
  obtain ⟨e1, e2⟩ := pr_some hf
  exact e2 ▸ hm
noncomputable def fX6_takeText_130 (h0 : Nat)  (s0 : Int32) (gs : CS) : Option (Int32 × CS) := gd (narrow .boolean (.int s0) = .int s0) (some (s0, gs))
set_option maxHeartbeats 1000000 in
theorem mo_X6_takeText_130 (h0 : Nat)   (s0 : Int32) (gs : CS) (r : Int32) (st' : CS) (hf : fX6_takeText_130 h0 s0 gs = some (r, st')) : Mo gs st' := by
  unfold fX6_takeText_130 at hf
  have hm : Mo gs gs := Mo.rf
  obtain ⟨hz, hf⟩ := gd_some hf
  obtain ⟨e1, e2⟩ := pr_some hf
  exact e2 ▸ hm
noncomputable def fX6_takeText_116 (h0 : Nat)  (l1 : Option Nat) (s0 : Int32) (gs : CS) : Option (Int32 × CS) := pif (s0 = 34) (gd (qk gs h0 = 9) (nam (wI gs h0 3 ((qI gs h0 3) + 1)) (fun st_7 => ono (qP st_7 h0 2) (fun a_8 => gd (qk st_7 a_8 = 2) (bnd (fJ4_toString_0e30d a_8 st_7) (fun r_13 st_11 => fX6_takeText_149 h0 r_13 l1 st_11)))))) (gd (qk gs h0 = 9) (bnd (fX6_refuse h0 1 (qI gs h0 3) gs) (fun r_17 st_15 => fX6_takeText_130 h0 r_17 st_15)))
set_option maxHeartbeats 1000000 in
theorem mo_X6_takeText_116 (h0 : Nat)   (l1 : Option Nat) (s0 : Int32) (gs : CS) (r : Int32) (st' : CS) (hf : fX6_takeText_116 h0 l1 s0 gs = some (r, st')) : Mo gs st' := by
  unfold fX6_takeText_116 at hf
  have hm : Mo gs gs := Mo.rf
  rcases pif_or hf with ⟨c_5, hf⟩ | ⟨c_5, hf⟩
  · obtain ⟨hk_6, hf⟩ := gd_some hf
    obtain ⟨st_7, est_7, hf⟩ := nam_some hf
    have hm := hm.wI est_7
    obtain ⟨a_8, ha_9, hf⟩ := ono_some hf
    obtain ⟨hk_10, hf⟩ := gd_some hf
    obtain ⟨r_13, st_11, hc_12, hf⟩ := bnd_some hf
    have hm := hm.tr (mo_J4_toString_0e30d a_8 _ _ _ hc_12)
    exact hm.tr (mo_X6_takeText_149 h0 r_13 l1 st_11 _ _ hf)
  · obtain ⟨hk_14, hf⟩ := gd_some hf
    obtain ⟨r_17, st_15, hc_16, hf⟩ := bnd_some hf
    have hm := hm.ke (mo_X6_refuse h0 1 (qI gs h0 3) _ _ _ hc_16)
    exact hm.tr (mo_X6_takeText_130 h0 r_17 st_15 _ _ hf)
noncomputable def fX6_takeText_105 (h0 : Nat)  (l1 : Option Nat) (gs : CS) : Option (Int32 × CS) := gd (qk gs h0 = 9) (ono (qP gs h0 0) (fun a_19 => gd (qk gs a_19 = 8) (bnd (fX5_byteAt a_19 (qI gs h0 3) gs) (fun r_24 st_22 => fX6_takeText_116 h0 l1 r_24 st_22))))
set_option maxHeartbeats 1000000 in
theorem mo_X6_takeText_105 (h0 : Nat)   (l1 : Option Nat) (gs : CS) (r : Int32) (st' : CS) (hf : fX6_takeText_105 h0 l1 gs = some (r, st')) : Mo gs st' := by
  unfold fX6_takeText_105 at hf
  have hm : Mo gs gs := Mo.rf
  obtain ⟨hk_18, hf⟩ := gd_some hf
  obtain ⟨a_19, ha_20, hf⟩ := ono_some hf
  obtain ⟨hk_21, hf⟩ := gd_some hf
  obtain ⟨r_24, st_22, hc_23, hf⟩ := bnd_some hf
  have hm := hm.ke (mo_X5_byteAt a_19 (qI gs h0 3) _ _ _ hc_23)
  exact hm.tr (mo_X6_takeText_116 h0 l1 r_24 st_22 _ _ hf)
noncomputable def fX6_takeText_88 (h0 : Nat) (k46 : Option Nat → Int32 → CS → Option (Int32 × CS)) (l1 : Option Nat) (l2 : Int32) (s0 : Option Nat) (gs : CS) : Option (Int32 × CS) := gd (qk gs h0 = 9) (nam (wI gs h0 3 ((qI gs h0 3) + 1)) (fun st_26 => nam (l2 + 1) (fun v_27 => k46 l1 v_27 st_26)))
set_option maxHeartbeats 1000000 in
theorem mo_X6_takeText_88 (h0 : Nat) (k46 : Option Nat → Int32 → CS → Option (Int32 × CS)) (hk46 : ∀ (l1 : Option Nat) (l2 : Int32) (gs : CS) (r : Int32) (st' : CS), k46 l1 l2 gs = some (r, st') → Mo gs st') (l1 : Option Nat) (l2 : Int32) (s0 : Option Nat) (gs : CS) (r : Int32) (st' : CS) (hf : fX6_takeText_88 h0 k46 l1 l2 s0 gs = some (r, st')) : Mo gs st' := by
  unfold fX6_takeText_88 at hf
  have hm : Mo gs gs := Mo.rf
  obtain ⟨hk_25, hf⟩ := gd_some hf
  obtain ⟨st_26, est_26, hf⟩ := nam_some hf
  have hm := hm.wI est_26
  obtain ⟨v_27, ev_27, hf⟩ := nam_some hf
  exact hm.tr (hk46 l1 v_27 st_26 _ _ hf)
noncomputable def fX6_takeText_84 (h0 : Nat) (k46 : Option Nat → Int32 → CS → Option (Int32 × CS)) (l1 : Option Nat) (l2 : Int32) (s0 : Int32) (s1 : Option Nat) (gs : CS) : Option (Int32 × CS) := ono s1 (fun a_28 => gd (qk gs a_28 = 2) (bnd (fJ4_append_cf468 a_28 ((s0.toUInt32 % 65536).toInt32) gs) (fun r_33 st_31 => fX6_takeText_88 h0 k46 l1 l2 r_33 st_31)))
set_option maxHeartbeats 1000000 in
theorem mo_X6_takeText_84 (h0 : Nat) (k46 : Option Nat → Int32 → CS → Option (Int32 × CS)) (hk46 : ∀ (l1 : Option Nat) (l2 : Int32) (gs : CS) (r : Int32) (st' : CS), k46 l1 l2 gs = some (r, st') → Mo gs st') (l1 : Option Nat) (l2 : Int32) (s0 : Int32) (s1 : Option Nat) (gs : CS) (r : Int32) (st' : CS) (hf : fX6_takeText_84 h0 k46 l1 l2 s0 s1 gs = some (r, st')) : Mo gs st' := by
  unfold fX6_takeText_84 at hf
  have hm : Mo gs gs := Mo.rf
  obtain ⟨a_28, ha_29, hf⟩ := ono_some hf
  obtain ⟨hk_30, hf⟩ := gd_some hf
  obtain ⟨r_33, st_31, hc_32, hf⟩ := bnd_some hf
  have hm := hm.tr (mo_J4_append_cf468 a_28 ((s0.toUInt32 % 65536).toInt32) _ _ _ hc_32)
  exact hm.tr (mo_X6_takeText_88 h0 k46 hk46 l1 l2 r_33 st_31 _ _ hf)
noncomputable def fX6_takeText_66 (h0 : Nat) (k46 : Option Nat → Int32 → CS → Option (Int32 × CS)) (l1 : Option Nat) (l2 : Int32) (s0 : Int32) (gs : CS) : Option (Int32 × CS) := pif (s0 = 0) (fX6_takeText_105 h0 l1 gs) (gd (qk gs h0 = 9) (ono (qP gs h0 0) (fun a_36 => gd (qk gs a_36 = 8) (bnd (fX5_byteAt a_36 (qI gs h0 3) gs) (fun r_41 st_39 => fX6_takeText_84 h0 k46 l1 l2 r_41 (qP gs h0 2) st_39)))))
set_option maxHeartbeats 1000000 in
theorem mo_X6_takeText_66 (h0 : Nat) (k46 : Option Nat → Int32 → CS → Option (Int32 × CS)) (hk46 : ∀ (l1 : Option Nat) (l2 : Int32) (gs : CS) (r : Int32) (st' : CS), k46 l1 l2 gs = some (r, st') → Mo gs st') (l1 : Option Nat) (l2 : Int32) (s0 : Int32) (gs : CS) (r : Int32) (st' : CS) (hf : fX6_takeText_66 h0 k46 l1 l2 s0 gs = some (r, st')) : Mo gs st' := by
  unfold fX6_takeText_66 at hf
  have hm : Mo gs gs := Mo.rf
  rcases pif_or hf with ⟨c_34, hf⟩ | ⟨c_34, hf⟩
  · exact hm.tr (mo_X6_takeText_105 h0 l1 gs _ _ hf)
  · obtain ⟨hk_35, hf⟩ := gd_some hf
    obtain ⟨a_36, ha_37, hf⟩ := ono_some hf
    obtain ⟨hk_38, hf⟩ := gd_some hf
    obtain ⟨r_41, st_39, hc_40, hf⟩ := bnd_some hf
    have hm := hm.ke (mo_X5_byteAt a_36 (qI gs h0 3) _ _ _ hc_40)
    exact hm.tr (mo_X6_takeText_84 h0 k46 hk46 l1 l2 r_41 (qP gs h0 2) st_39 _ _ hf)
noncomputable def fX6_takeText_63 (h0 : Nat) (k46 : Option Nat → Int32 → CS → Option (Int32 × CS)) (l1 : Option Nat) (l2 : Int32) (s0 : Int32) (gs : CS) : Option (Int32 × CS) := bnd (fX6_isQuotable s0 gs) (fun r_44 st_42 => fX6_takeText_66 h0 k46 l1 l2 r_44 st_42)
set_option maxHeartbeats 1000000 in
theorem mo_X6_takeText_63 (h0 : Nat) (k46 : Option Nat → Int32 → CS → Option (Int32 × CS)) (hk46 : ∀ (l1 : Option Nat) (l2 : Int32) (gs : CS) (r : Int32) (st' : CS), k46 l1 l2 gs = some (r, st') → Mo gs st') (l1 : Option Nat) (l2 : Int32) (s0 : Int32) (gs : CS) (r : Int32) (st' : CS) (hf : fX6_takeText_63 h0 k46 l1 l2 s0 gs = some (r, st')) : Mo gs st' := by
  unfold fX6_takeText_63 at hf
  have hm : Mo gs gs := Mo.rf
  obtain ⟨r_44, st_42, hc_43, hf⟩ := bnd_some hf
  have hm := hm.ke (mo_X6_isQuotable s0 _ _ _ hc_43)
  exact hm.tr (mo_X6_takeText_66 h0 k46 hk46 l1 l2 r_44 st_42 _ _ hf)
noncomputable def fX6_takeText_46 (h0 : Nat)  : Nat → Option Nat → Int32 → CS → Option (Int32 × CS)
  | 0 => fun _ _ _ => none
  | n + 1 => fun l1 l2 gs => pif (12 ≤ l2) (fX6_takeText_105 h0 l1 gs) (gd (qk gs h0 = 9) (ono (qP gs h0 0) (fun a_47 => gd (qk gs a_47 = 8) (bnd (fX5_byteAt a_47 (qI gs h0 3) gs) (fun r_52 st_50 => fX6_takeText_63 h0 (fX6_takeText_46 h0 n) l1 l2 r_52 st_50)))))
theorem fX6_takeText_46_z (h0 : Nat)  (l1 : Option Nat) (l2 : Int32) (gs : CS) : fX6_takeText_46 h0 0 l1 l2 gs = none := rfl
theorem fX6_takeText_46_s (h0 : Nat)  (n : Nat) (l1 : Option Nat) (l2 : Int32) (gs : CS) : fX6_takeText_46 h0 (n + 1) l1 l2 gs = pif (12 ≤ l2) (fX6_takeText_105 h0 l1 gs) (gd (qk gs h0 = 9) (ono (qP gs h0 0) (fun a_47 => gd (qk gs a_47 = 8) (bnd (fX5_byteAt a_47 (qI gs h0 3) gs) (fun r_52 st_50 => fX6_takeText_63 h0 (fX6_takeText_46 h0 n) l1 l2 r_52 st_50))))) := rfl
set_option maxHeartbeats 1000000 in
theorem mo_X6_takeText_46 (h0 : Nat)   : ∀ (n : Nat) (l1 : Option Nat) (l2 : Int32) (gs : CS) (r : Int32) (st' : CS), fX6_takeText_46 h0 n l1 l2 gs = some (r, st') → Mo gs st' := by
  intro n
  induction n with
  | zero =>
    intro l1 l2 gs r st' hf
    rw [fX6_takeText_46_z] at hf
    cases hf
  | succ n ih =>
    intro l1 l2 gs r st' hf
    rw [fX6_takeText_46_s] at hf
    have hm : Mo gs gs := Mo.rf
    rcases pif_or hf with ⟨c_45, hf⟩ | ⟨c_45, hf⟩
    · exact hm.tr (mo_X6_takeText_105 h0 l1 gs _ _ hf)
    · obtain ⟨hk_46, hf⟩ := gd_some hf
      obtain ⟨a_47, ha_48, hf⟩ := ono_some hf
      obtain ⟨hk_49, hf⟩ := gd_some hf
      obtain ⟨r_52, st_50, hc_51, hf⟩ := bnd_some hf
      have hm := hm.ke (mo_X5_byteAt a_47 (qI gs h0 3) _ _ _ hc_51)
      exact hm.tr (mo_X6_takeText_63 h0 (fX6_takeText_46 h0 n) ih l1 l2 r_52 st_50 _ _ hf)
noncomputable def fX6_takeText_44 (h0 : Nat)  (l1 : Option Nat) (gs : CS) : Option (Int32 × CS) := fX6_takeText_46 h0 fuel l1 0 gs
set_option maxHeartbeats 1000000 in
theorem mo_X6_takeText_44 (h0 : Nat)   (l1 : Option Nat) (gs : CS) (r : Int32) (st' : CS) (hf : fX6_takeText_44 h0 l1 gs = some (r, st')) : Mo gs st' := by
  unfold fX6_takeText_44 at hf
  have hm : Mo gs gs := Mo.rf
  exact hm.tr (mo_X6_takeText_46 h0 fuel l1 0 gs _ _ hf)
noncomputable def fX6_takeText_25 (h0 : Nat)  (s0 : Int32) (gs : CS) : Option (Int32 × CS) := gd (narrow .boolean (.int s0) = .int s0) (some (s0, gs))
set_option maxHeartbeats 1000000 in
theorem mo_X6_takeText_25 (h0 : Nat)   (s0 : Int32) (gs : CS) (r : Int32) (st' : CS) (hf : fX6_takeText_25 h0 s0 gs = some (r, st')) : Mo gs st' := by
  unfold fX6_takeText_25 at hf
  have hm : Mo gs gs := Mo.rf
  obtain ⟨hz, hf⟩ := gd_some hf
  obtain ⟨e1, e2⟩ := pr_some hf
  exact e2 ▸ hm
noncomputable def fX6_takeText_11 (h0 : Nat)  (l1 : Option Nat) (s0 : Int32) (gs : CS) : Option (Int32 × CS) := pif (s0 = 34) (gd (qk gs h0 = 9) (nam (wI gs h0 3 ((qI gs h0 3) + 1)) (fun st_55 => ono (qP st_55 h0 2) (fun a_56 => gd (qk st_55 a_56 = 2) (bnv (fJ4_setLength_d00df a_56 0 st_55) (fun st_59 => fX6_takeText_44 h0 l1 st_59)))))) (gd (qk gs h0 = 9) (bnd (fX6_refuse h0 1 (qI gs h0 3) gs) (fun r_65 st_63 => fX6_takeText_25 h0 r_65 st_63)))
set_option maxHeartbeats 1000000 in
theorem mo_X6_takeText_11 (h0 : Nat)   (l1 : Option Nat) (s0 : Int32) (gs : CS) (r : Int32) (st' : CS) (hf : fX6_takeText_11 h0 l1 s0 gs = some (r, st')) : Mo gs st' := by
  unfold fX6_takeText_11 at hf
  have hm : Mo gs gs := Mo.rf
  rcases pif_or hf with ⟨c_53, hf⟩ | ⟨c_53, hf⟩
  · obtain ⟨hk_54, hf⟩ := gd_some hf
    obtain ⟨st_55, est_55, hf⟩ := nam_some hf
    have hm := hm.wI est_55
    obtain ⟨a_56, ha_57, hf⟩ := ono_some hf
    obtain ⟨hk_58, hf⟩ := gd_some hf
    obtain ⟨st_59, hc_60, hf⟩ := bnv_some hf
    have hm := hm.tr (mo_J4_setLength_d00df a_56 0 _ _ hc_60)
    exact hm.tr (mo_X6_takeText_44 h0 l1 st_59 _ _ hf)
  · obtain ⟨hk_62, hf⟩ := gd_some hf
    obtain ⟨r_65, st_63, hc_64, hf⟩ := bnd_some hf
    have hm := hm.ke (mo_X6_refuse h0 1 (qI gs h0 3) _ _ _ hc_64)
    exact hm.tr (mo_X6_takeText_25 h0 r_65 st_63 _ _ hf)
noncomputable def fX6_takeText (h0 : Nat) (p0 : Option Nat) (st : CS) : Option (Int32 × CS) := gd (qk st h0 = 9) (ono (qP st h0 0) (fun a_67 => gd (qk st a_67 = 8) (bnd (fX5_byteAt a_67 (qI st h0 3) st) (fun r_72 st_70 => fX6_takeText_11 h0 p0 r_72 st_70))))
set_option maxHeartbeats 1000000 in
theorem mo_X6_takeText (h0 : Nat) (p0 : Option Nat) (st : CS) (r : Int32) (st' : CS) (hf : fX6_takeText h0 p0 st = some (r, st')) : Mo st st' := by
  unfold fX6_takeText at hf
  have hm : Mo st st := Mo.rf
  obtain ⟨hk_66, hf⟩ := gd_some hf
  obtain ⟨a_67, ha_68, hf⟩ := ono_some hf
  obtain ⟨hk_69, hf⟩ := gd_some hf
  obtain ⟨r_72, st_70, hc_71, hf⟩ := bnd_some hf
  have hm := hm.ke (mo_X5_byteAt a_67 (qI st h0 3) _ _ _ hc_71)
  exact hm.tr (mo_X6_takeText_11 h0 p0 r_72 st_70 _ _ hf)
def wq_X6_takeText : List Cond := .code yX6_takeText cX6_takeText 3 (some .boolean) :: (([.fieldLink RX6 9 "RecordBench$TextReader" "tape" "LRecordBench$Row;", .fieldLink RX6 26 "RecordBench$TextReader" "pos" "I", .fieldLink RX6 22 "RecordBench$TextReader" "letters" "Ljava/lang/StringBuilder;", .methodLink RX6 182 yJ4_toString_0e30d, .instanceMethod yJ4_toString_0e30d, .selects RJ4 yJ4_toString_0e30d yJ4_toString_0e30d, .initialized RJ4, .methodLink RX6 48 yX6_refuse, .instanceMethod yX6_refuse, .selects RX6 yX6_refuse yX6_refuse, .initialized RX6, .methodLink RX6 150 yX5_byteAt, .instanceMethod yX5_byteAt, .selects RX5 yX5_byteAt yX5_byteAt, .initialized RX5, .methodLink RX6 178 yJ4_append_cf468, .instanceMethod yJ4_append_cf468, .selects RJ4 yJ4_append_cf468 yJ4_append_cf468, .methodLink RX6 175 yX6_isQuotable, .static yX6_isQuotable, .methodLink RX6 171 yJ4_setLength_d00df, .instanceMethod yJ4_setLength_d00df, .selects RJ4 yJ4_setLength_d00df yJ4_setLength_d00df, .code yJ4_toString_0e30d cJ4_toString_0e30d 1 (some (.object "java/lang/String")), .instanceMethod yJ0_init_81219, .initialized RJ0, .methodLink RJ4 137 yJ0_init_81219, .classLink RJ4 18 RJ0, .instantiable RJ0 4, .code yJ0_init_81219 cJ0_init_81219 2 none, .instanceMethod yJ0_init_db425, .methodLink RJ0 489 yJ0_init_db425, .code yJ0_init_db425 cJ0_init_db425 5 none, .methodLink RJ0 1 objectInit, .instanceMethod objectInit, .code objectInit ⟨#[0xb1]⟩ 1 none, .fieldLink RJ0 15 "java/lang/String" "coder" "B", .fieldLink RJ0 9 "java/lang/String" "value" "[B", .methodLink RJ0 54 yJ7_copyOfRange_39247, .static yJ7_copyOfRange_39247, .initialized RJ7, .methodLink RJ0 1047 ⟨"java/lang/AbstractStringBuilder", "isLatin1", "()Z"⟩, .sameMethod "java/lang/AbstractStringBuilder" "java/lang/AbstractStringBuilder" "isLatin1" "()Z", .selects RJ4 ⟨"java/lang/AbstractStringBuilder", "isLatin1", "()Z"⟩ yJ5_isLatin1_aae02, .instanceMethod yJ5_isLatin1_aae02, .initialized RJ5, .methodLink RJ0 549 ⟨"java/lang/AbstractStringBuilder", "length", "()I"⟩, .sameMethod "java/lang/AbstractStringBuilder" "java/lang/AbstractStringBuilder" "length" "()I", .instanceMethod yJ5_length_8abf5, .selects RJ4 ⟨"java/lang/AbstractStringBuilder", "length", "()I"⟩ yJ4_length_8abf5, .instanceMethod yJ4_length_8abf5, .methodLink RJ0 552 ⟨"java/lang/AbstractStringBuilder", "getValue", "()[B"⟩, .sameMethod "java/lang/AbstractStringBuilder" "java/lang/AbstractStringBuilder" "getValue" "()[B", .selects RJ4 ⟨"java/lang/AbstractStringBuilder", "getValue", "()[B"⟩ yJ5_getValue_6d5f1, .instanceMethod yJ5_getValue_6d5f1, .code yJ7_copyOfRange_39247 cJ7_copyOfRange_39247 3 (some (.array .byte)), .classLink RJ7 311 "[B", .methodLink RJ7 339 yJ7_copyOfRangeByte_39247, .static yJ7_copyOfRangeByte_39247, .methodLink RJ7 310 ⟨"[B", "clone", "()Ljava/lang/Object;"⟩, .sameMethod "[B" "java/lang/Object" "clone" "()Ljava/lang/Object;", .native ⟨"java/lang/Object", "clone", "()Ljava/lang/Object;"⟩, .instanceMethod ⟨"java/lang/Object", "clone", "()Ljava/lang/Object;"⟩, .selects "[B" ⟨"[B", "clone", "()Ljava/lang/Object;"⟩ ⟨"java/lang/Object", "clone", "()Ljava/lang/Object;"⟩, .code yJ7_copyOfRangeByte_39247 cJ7_copyOfRangeByte_39247 5 (some (.array .byte)), .methodLink RJ7 304 Lib.Math.min.name, .static Lib.Math.min.name, .initialized "java/lang/Math", .code Lib.Math.min.name Lib.Math.min.code 2 (some .int), .methodLink RJ7 150 arraycopyName, .native arraycopyName, .static arraycopyName, .initialized "java/lang/System", .arrayClass .byte, .methodLink RJ7 343 yJ7_checkLength_df160, .static yJ7_checkLength_df160, .code yJ7_checkLength_df160 cJ7_checkLength_df160 2 none, .code yJ5_isLatin1_aae02 cJ5_isLatin1_aae02 1 (some .boolean), .fieldLink RJ5 18 "java/lang/String" "COMPACT_STRINGS" "Z", .fieldLink RJ5 22 "java/lang/AbstractStringBuilder" "coder" "B", .code yJ4_length_8abf5 cJ4_length_8abf5 1 (some .int), .methodLink RJ4 343 yJ5_length_8abf5, .superclass RJ4 RJ5, .code yJ5_length_8abf5 cJ5_length_8abf5 1 (some .int), .fieldLink RJ5 79 "java/lang/AbstractStringBuilder" "count" "I", .code yJ5_getValue_6d5f1 cJ5_getValue_6d5f1 1 (some (.array .byte)), .fieldLink RJ5 15 "java/lang/AbstractStringBuilder" "value" "[B", .code yX6_refuse cX6_refuse 3 (some .boolean), .fieldLink RX6 30 "RecordBench$TextReader" "fault" "I", .fieldLink RX6 33 "RecordBench$TextReader" "place" "I", .code yX5_byteAt cX5_byteAt 2 (some .int), .fieldLink RX5 21 "RecordBench$Row" "size" "I", .fieldLink RX5 15 "RecordBench$Row" "bytes" "[I", .code yJ4_append_cf468 cJ4_append_cf468 2 (some (.object "java/lang/StringBuilder")), .methodLink RJ4 50 yJ5_append_3fe6f, .sameMethod "java/lang/AbstractStringBuilder" "java/lang/AbstractStringBuilder" "append" "(C)Ljava/lang/AbstractStringBuilder;", .instanceMethod yJ5_append_3fe6f, .code yJ5_append_3fe6f cJ5_append_3fe6f 2 (some (.object "java/lang/AbstractStringBuilder")), .methodLink RJ5 191 yJ1_canEncode_fc78d, .static yJ1_canEncode_fc78d, .initialized RJ1, .methodLink RJ5 83 ⟨"java/lang/AbstractStringBuilder", "isLatin1", "()Z"⟩, .methodLink RJ5 100 ⟨"java/lang/AbstractStringBuilder", "ensureCapacityInternal", "(I)V"⟩, .sameMethod "java/lang/AbstractStringBuilder" "java/lang/AbstractStringBuilder" "ensureCapacityInternal" "(I)V", .selects RJ4 ⟨"java/lang/AbstractStringBuilder", "ensureCapacityInternal", "(I)V"⟩ yJ5_ensureCapacityInternal_d00df, .instanceMethod yJ5_ensureCapacityInternal_d00df, .code yJ1_canEncode_fc78d cJ1_canEncode_fc78d 1 (some .boolean), .code yJ5_ensureCapacityInternal_d00df cJ5_ensureCapacityInternal_d00df 3 none, .methodLink RJ5 108 yJ7_copyOf_9075b, .static yJ7_copyOf_9075b, .methodLink RJ5 104 ⟨"java/lang/AbstractStringBuilder", "newCapacity", "(I)I"⟩, .sameMethod "java/lang/AbstractStringBuilder" "java/lang/AbstractStringBuilder" "newCapacity" "(I)I", .selects RJ4 ⟨"java/lang/AbstractStringBuilder", "newCapacity", "(I)I"⟩ yJ5_newCapacity_0f7a4, .instanceMethod yJ5_newCapacity_0f7a4, .code yJ7_copyOf_9075b cJ7_copyOf_9075b 3 (some (.array .byte)), .code yJ5_newCapacity_0f7a4 cJ5_newCapacity_0f7a4 6 (some .int), .constant RJ5 39 (2147483647), .methodLink RJ5 114 yJ8_newLength_cabcc, .static yJ8_newLength_cabcc, .initialized RJ8, .code yJ8_newLength_cabcc cJ8_newLength_cabcc 4 (some .int), .methodLink RJ8 194 Lib.Math.max.name, .static Lib.Math.max.name, .code Lib.Math.max.name Lib.Math.max.code 2 (some .int), .constant RJ8 200 (2147483639), .code yX6_isQuotable cX6_isQuotable 1 (some .boolean), .methodLink RX6 192 yX5_isTextByte, .static yX5_isTextByte, .code yX5_isTextByte cX5_isTextByte 1 (some .boolean), .code yJ4_setLength_d00df cJ4_setLength_d00df 2 none, .methodLink RJ4 333 yJ5_setLength_d00df, .sameMethod "java/lang/AbstractStringBuilder" "java/lang/AbstractStringBuilder" "setLength" "(I)V", .instanceMethod yJ5_setLength_d00df, .code yJ5_setLength_d00df cJ5_setLength_d00df 2 none, .fieldLink RJ5 73 "java/lang/AbstractStringBuilder" "maybeLatin1" "Z"] : List Cond) ++ wsX60 ++ wsX00 ++ wsJ00 ++ wsJ40 ++ wsX50)
theorem gs_wq_X6_takeText_wsJ00 : GoodIn wq_X6_takeText wsJ00 := fun w h => ⟨List.mem_cons_of_mem _ (List.mem_append_left _ (List.mem_append_left _ (List.mem_append_right _ h))), (gt_wsJ00 w h).2⟩
theorem gs_wq_X6_takeText_wsJ40 : GoodIn wq_X6_takeText wsJ40 := fun w h => ⟨List.mem_cons_of_mem _ (List.mem_append_left _ (List.mem_append_right _ h)), (gt_wsJ40 w h).2⟩
set_option maxRecDepth 20000 in
theorem gq_X6_takeText_J4_toString_0e30d_182 : GoodIn wq_X6_takeText (wsV RX6 182 RJ4 yJ4_toString_0e30d wq_J4_toString_0e30d) := goodIn_app (goodIn_r _ [4, 5, 6, 7] rfl rfl) (goodIn_ca (goodIn_ca (goodIn_r _ [24, 25, 26, 27, 28, 29, 30, 31, 32, 33, 34, 35, 36, 37, 38, 39, 40, 41, 42, 43, 44, 45, 46, 47, 48, 49, 50, 51, 7, 52, 53, 54, 55, 56, 57, 58, 59, 60, 61, 62, 63, 64, 65, 66, 67, 68, 69, 70, 71, 72, 73, 74, 75, 76, 77, 78, 79, 80, 81, 82, 83, 84, 85, 86, 87] rfl rfl) gs_wq_X6_takeText_wsJ00) gs_wq_X6_takeText_wsJ40)
theorem gs_wq_X6_takeText_wsX60 : GoodIn wq_X6_takeText wsX60 := fun w h => ⟨List.mem_cons_of_mem _ (List.mem_append_left _ (List.mem_append_left _ (List.mem_append_left _ (List.mem_append_left _ (List.mem_append_right _ h))))), (gt_wsX60 w h).2⟩
set_option maxRecDepth 20000 in
theorem gq_X6_takeText_X6_refuse_48 : GoodIn wq_X6_takeText (wsV RX6 48 RX6 yX6_refuse wq_X6_refuse) := goodIn_app (goodIn_r _ [8, 9, 10, 11] rfl rfl) (goodIn_ca (goodIn_r _ [88, 89, 90] rfl rfl) gs_wq_X6_takeText_wsX60)
theorem gs_wq_X6_takeText_wsX50 : GoodIn wq_X6_takeText wsX50 := fun w h => ⟨List.mem_cons_of_mem _ (List.mem_append_right _ h), (gt_wsX50 w h).2⟩
set_option maxRecDepth 20000 in
theorem gq_X6_takeText_X5_byteAt_150 : GoodIn wq_X6_takeText (wsV RX6 150 RX5 yX5_byteAt wq_X5_byteAt) := goodIn_app (goodIn_r _ [12, 13, 14, 15] rfl rfl) (goodIn_ca (goodIn_r _ [91, 92, 93] rfl rfl) gs_wq_X6_takeText_wsX50)
set_option maxRecDepth 20000 in
theorem gq_X6_takeText_J4_append_cf468_178 : GoodIn wq_X6_takeText (wsV RX6 178 RJ4 yJ4_append_cf468 wq_J4_append_cf468) := goodIn_app (goodIn_r _ [16, 17, 18, 7] rfl rfl) (goodIn_ca (goodIn_r _ [94, 95, 96, 83, 97, 46, 98, 85, 87, 99, 100, 101, 102, 43, 44, 45, 103, 104, 105, 106, 107, 78, 79, 80, 108, 109, 110, 41, 111, 112, 113, 114, 115, 66, 67, 68, 69, 70, 71, 72, 73, 74, 116, 117, 118, 119, 120, 121, 122, 123, 124, 125] rfl rfl) gs_wq_X6_takeText_wsJ40)
set_option maxRecDepth 20000 in
theorem gq_X6_takeText_X6_isQuotable_175 : GoodIn wq_X6_takeText (va_wsS RX6 175 yX6_isQuotable wq_X6_isQuotable) := goodIn_app (goodIn_r _ [19, 20, 11] rfl rfl) (goodIn_r _ [126, 127, 128, 15, 129] rfl rfl)
set_option maxRecDepth 20000 in
theorem gq_X6_takeText_J4_setLength_d00df_171 : GoodIn wq_X6_takeText (wsV RX6 171 RJ4 yJ4_setLength_d00df wq_J4_setLength_d00df) := goodIn_app (goodIn_r _ [21, 22, 23, 7] rfl rfl) (goodIn_ca (goodIn_r _ [130, 131, 132, 83, 133, 46, 134, 85, 135, 103, 104, 105, 106, 108, 87, 80, 109, 110, 41, 111, 112, 113, 114, 115, 66, 67, 68, 69, 70, 71, 72, 73, 74, 116, 117, 118, 119, 120, 121, 122, 123, 124, 125] rfl rfl) gs_wq_X6_takeText_wsJ40)
set_option maxHeartbeats 4000000 in
set_option maxRecDepth 100000 in
theorem c_X6_takeText (l : Launch) (dC : Nat → ClassId) (dI : Nat → Nat → Nat) (ka ad : Nat → Nat) (ct : Nat → ClassId) (h0 : Nat) (p0 : Option Nat) (st st' : CS) (r : Int32) (hf : fX6_takeText h0 p0 st = some (r, st')) (sz : Nat) : Met l yX6_takeText wq_X6_takeText ({ frames := 6, cells := (qn st' - qn st), slots := (qs st' - qs st), locals := 176 }) (va_Pc [.ref (ad h0), va_rf (Option.map ad p0)] (PrC (dC, dI) ct ka ad st sz)) (va_Qi (fun r' (_ : Unit) => r' = r) (fun _ => CB (dC, dI) ct ka ad st' (aC ad st sz)) (aC ad st sz)) (qn st' - qn st) (qs st' - qs st) (aC ad st sz) := by
  refine Met.ofW (cc := cX6_takeText) (maxL := 3) (ret := (some .boolean)) (by decide) rfl ?_
  intro p e s m args below meth c s₁ B hml hv
  obtain ⟨rfl, hsz, hw0, hK, hN, hZ, hC, hR, hL, hw1, hw2⟩ := hv
  have hx := B.exec
  have hb := B.bytes
  have hr := B.returns
  have hts := atoms_spec (ws := wq_X6_takeText) B.pre
  have hown : s.vm.findClass RX6 = some m.cls := findClass_of_methodNamed B.named
  have iRX6 : ∀ w ∈ u_ws RX6 TX6 6, w ∈ wq_X6_takeText := fun w h => List.mem_cons_of_mem _ (List.mem_append_left _ (List.mem_append_left _ (List.mem_append_left _ (List.mem_append_left _ (List.mem_append_right _ h)))))
  have iRX0 : ∀ w ∈ u_ws RX0 TX0 7, w ∈ wq_X6_takeText := fun w h => List.mem_cons_of_mem _ (List.mem_append_left _ (List.mem_append_left _ (List.mem_append_left _ (List.mem_append_right _ h))))
  subst hsz
  have hp : Cp (dC, dI) ka ad ct (aC ad st s.heap.size) s.heap st s.heap [] := ⟨fun i a b => ⟨hw0 i a b, Or.inl ⟨i, a, b, rfl⟩⟩, va_S.rf, hw1, hw2⟩
  generalize hAe : aC ad st s.heap.size = A at hp hZ hC ⊢
  have hA : ∀ q : Nat, s.heap.size ≤ q → A q := fun q h => by rw [← hAe]; exact Or.inr h
  have hl := lv_entry ([.ref (ad h0), va_rf (Option.map ad p0)]) (n := 3) (by simp [lg_sl, rf_cat, vc_i, vc_l, vc_r, vc_n])
  rw [lg_entry_eq]
  generalize (lg_sl ([.ref (ad h0), va_rf (Option.map ad p0)]) ++ List.replicate (3 - (lg_sl ([.ref (ad h0), va_rf (Option.map ad p0)])).length) Slot.unset).toArray = ls at hl ⊢
  have hl : lv_has ls 3 [(0, .ref (ad h0)), (1, va_rf (Option.map ad p0))] := by simpa [lv_args, rf_cat, vc_i, vc_l, vc_r, vc_n] using hl
  have hm : Mo st st := Mo.rf
  refine W.widen (k := qn st - qn st) (n := qs st - qs st) (Nat.zero_le _) (Nat.zero_le _) ?_
  refine W_blkA (fun (u : (Option Nat) × (Option Nat) × CS) H locs ls => match u with | (s0, s1, gs) => fX6_takeText_149 h0 s0 s1 gs = some (r, st') ∧ Cp (dC, dI) ka ad ct A s.heap gs H locs ∧ lv_has ls 3 [] ∧ Mo st gs) (fun (u : (Option Nat) × (Option Nat) × CS) ls => match u with | (s0, s1, gs) => F0 m 149 ls [va_rf (Option.map ad s0), va_rf (Option.map ad s1)]) (fun (u : (Option Nat) × (Option Nat) × CS) => match u with | (s0, s1, gs) => qn gs - qn st) (fun (u : (Option Nat) × (Option Nat) × CS) => match u with | (s0, s1, gs) => qs gs - qs st) ?_ (fun J149 => ?_)
  · intro u H locs ls hu
    obtain ⟨s0, s1, gs⟩ := u
    obtain ⟨hf, hp, hl, hm⟩ := hu
    show W p l e _ s m _ below meth c _ _ (qn gs - qn st) (qs gs - qs st) _ (F0 m 149 ls [va_rf (Option.map ad s0), va_rf (Option.map ad s1)])
    unfold fX6_takeText_149 at hf
    obtain ⟨a_1, ha_2, hf⟩ := ono_some hf
    refine o_at1 ha_2 ?_
    obtain ⟨hk_3, hf⟩ := gd_some hf
    refine q_pp (ci := 2) (C := RX0) (T := TX0) (N := 7) (k := 5) (v := s0) (ty := (.object "java/lang/String")) hx hb hts iRX0 tyX0 tyX0_ok nmX0 hown hK hp hk_3 (by decide) rfl rfl (by decide) rfl (Or.inr ⟨_, va_Nw.use rfl (hN.1 (.fieldLinkNest RX6 185 "RecordBench$Field" "text" "Ljava/lang/String;" "RecordBench") (by decide +kernel))⟩) (fun _ h9 => h9) rfl (by decide +kernel) (rf_nar rfl _) dX6_takeText_149 (fun H locs hp => ?_)
    obtain ⟨st_4, est_4, hf⟩ := nam_some hf
    rw [← est_4] at hp
    have hm := hm.wP est_4
    refine W.widen (k := qn st_4 - qn st) (n := qs st_4 - qs st) (by rw [est_4]; exact Nat.le_refl _) (by rw [est_4]; exact Nat.le_refl _) ?_
    have hk_3 : qk st_4 a_1 = 3 := by rw [est_4]; exact hk_3
    refine lv_iconst (v := 1) hx hb dX6_takeText_152 (by decide) ?_
    obtain ⟨e1, e2⟩ := pr_some hf
    refine W.widen (k := qn st' - qn st) (n := qs st' - qs st) (by rw [e2]; exact Nat.le_refl _) (by rw [e2]; exact Nat.le_refl _) ?_
    exact W.zret (v := 1) hx hb hr rfl (fun t ht hW => ⟨⟨1, (), rfl, e1, Cp.end e2 hp ht⟩, hp.2.1.F ht⟩) hp.2.1.2.2 dX6_takeText_153
  refine W_blkA (fun (u : Int32 × CS) H locs ls => match u with | (s0, gs) => fX6_takeText_130 h0 s0 gs = some (r, st') ∧ Cp (dC, dI) ka ad ct A s.heap gs H locs ∧ lv_has ls 3 [] ∧ Mo st gs) (fun (u : Int32 × CS) ls => match u with | (s0, gs) => F0 m 130 ls [.int s0]) (fun (u : Int32 × CS) => match u with | (s0, gs) => qn gs - qn st) (fun (u : Int32 × CS) => match u with | (s0, gs) => qs gs - qs st) ?_ (fun J130 => ?_)
  · intro u H locs ls hu
    obtain ⟨s0, gs⟩ := u
    obtain ⟨hf, hp, hl, hm⟩ := hu
    show W p l e _ s m _ below meth c _ _ (qn gs - qn st) (qs gs - qs st) _ (F0 m 130 ls [.int s0])
    unfold fX6_takeText_130 at hf
    obtain ⟨hz, hf⟩ := gd_some hf
    obtain ⟨e1, e2⟩ := pr_some hf
    refine W.widen (k := qn st' - qn st) (n := qs st' - qs st) (by rw [e2]; exact Nat.le_refl _) (by rw [e2]; exact Nat.le_refl _) ?_
    exact W.zret (v := s0) hx hb hr hz (fun t ht hW => ⟨⟨s0, (), rfl, e1, Cp.end e2 hp ht⟩, hp.2.1.F ht⟩) hp.2.1.2.2 dX6_takeText_130
  refine W_blkA (fun (u : (Option Nat) × Int32 × CS) H locs ls => match u with | (l1, s0, gs) => fX6_takeText_116 h0 l1 s0 gs = some (r, st') ∧ Cp (dC, dI) ka ad ct A s.heap gs H locs ∧ lv_has ls 3 [(0, .ref (ad h0)), (1, va_rf (Option.map ad l1))] ∧ Mo st gs) (fun (u : (Option Nat) × Int32 × CS) ls => match u with | (l1, s0, gs) => F0 m 116 ls [.int s0]) (fun (u : (Option Nat) × Int32 × CS) => match u with | (l1, s0, gs) => qn gs - qn st) (fun (u : (Option Nat) × Int32 × CS) => match u with | (l1, s0, gs) => qs gs - qs st) ?_ (fun J116 => ?_)
  · intro u H locs ls hu
    obtain ⟨l1, s0, gs⟩ := u
    obtain ⟨hf, hp, hl, hm⟩ := hu
    show W p l e _ s m _ below meth c _ _ (qn gs - qn st) (qs gs - qs st) _ (F0 m 116 ls [.int s0])
    unfold fX6_takeText_116 at hf
    refine lv_bipush (v := 34) hx hb dX6_takeText_116 (by decide) ?_
    refine lv_icmp_eq (tgt := 131) hx hb dX6_takeText_118 (by decide) (fun c_5 => ?_) (fun c_5 => ?_)
    · have hf := pif_t c_5 hf
      refine lv_aload_n hx hb dX6_takeText_131 rfl (lv_at hl 0 rfl) ?_
      refine lv_dup hx hb dX6_takeText_132 rfl ?_
      obtain ⟨hk_6, hf⟩ := gd_some hf
      refine q_gi (ci := 8) (C := RX6) (T := TX6) (N := 6) (k := 3) hx hb hts iRX6 hown hK hp hk_6 (by decide) rfl rfl (by decide) rfl (Or.inl (hts (.fieldLink RX6 26 "RecordBench$TextReader" "pos" "I") (by decide +kernel))) (fun _ h9 => h9) dX6_takeText_133 ?_
      refine lv_iconst (v := 1) hx hb dX6_takeText_136 (by decide) ?_
      refine lv_iadd hx hb dX6_takeText_137 ?_
      refine q_pi (ci := 8) (C := RX6) (T := TX6) (N := 6) (k := 3) (v := (qI gs h0 3) + 1) (ty := .int) hx hb hts iRX6 tyX6 tyX6_ok nmX6 hown hK hp hk_6 (by decide) rfl rfl (by decide) rfl (Or.inl (hts (.fieldLink RX6 26 "RecordBench$TextReader" "pos" "I") (by decide +kernel))) (fun _ h9 => h9) rfl (by decide +kernel) rfl rfl dX6_takeText_138 (fun H locs hp => ?_)
      obtain ⟨st_7, est_7, hf⟩ := nam_some hf
      rw [← est_7] at hp
      have hm := hm.wI est_7
      refine W.widen (k := qn st_7 - qn st) (n := qs st_7 - qs st) (by rw [est_7]; exact Nat.le_refl _) (by rw [est_7]; exact Nat.le_refl _) ?_
      have hk_6 : qk st_7 h0 = 9 := by rw [est_7]; exact hk_6
      refine o_aload_n hx hb dX6_takeText_141 rfl (lv_at hl 1 rfl) ?_
      refine lv_aload_n hx hb dX6_takeText_142 rfl (lv_at hl 0 rfl) ?_
      refine q_gp (ci := 8) (C := RX6) (T := TX6) (N := 6) (k := 2) hx hb hts iRX6 hown hK hp hk_6 (by decide) rfl rfl (by decide) rfl (Or.inl (hts (.fieldLink RX6 22 "RecordBench$TextReader" "letters" "Ljava/lang/StringBuilder;") (by decide +kernel))) (fun _ h9 => h9) dX6_takeText_143 ?_
      obtain ⟨a_8, ha_9, hf⟩ := ono_some hf
      refine o_at ha_9 ?_
      obtain ⟨hk_10, hf⟩ := gd_some hf
      obtain ⟨r_13, st_11, hc_12, hf⟩ := bnd_some hf
      have lthk_6 := hp.2.2.1.lt (i := h0) (by rw [hk_6]; decide)
      have lthk_10 := hp.2.2.1.lt (i := a_8) (by rw [hk_10]; decide)
      have hmc := (mo_J4_toString_0e30d a_8 _ _ _ hc_12)
      have hmr := mo_X6_takeText_149 h0 _ _ _ _ _ hf
      refine q_cq hp hA (va_runV (As := []) (rest := [va_rf (Option.map ad l1)]) ⟨hx, hb, hml, hown, hts⟩ (c_J4_toString_0e30d l dC dI ka ad ct a_8 _ _ _ hc_12 _) (cwV 0 hts gq_X6_takeText_J4_toString_0e30d_182 rfl rfl rfl (by decide +kernel) ⟨Nat.le_of_ble_eq_true rfl, Nat.le_of_ble_eq_true rfl⟩) ⟨PrC.blind _, q_rv1 hK hp hC hk_10, q_pre hp hK hN hZ hC hR hL hA⟩ rfl rfl hl.1 rfl (lv_room (by simp [rf_cat, vc_i, vc_l, vc_r, vc_n])) dX6_takeText_146 ⟨by show qn st_7 - qn st + (qn st_11 - qn st_7) ≤ qn st' - qn st; have := hmr.1; have := hm.1; have := hmc.1; omega, by show qs st_7 - qs st + (qs st_11 - qs st_7) ≤ qs st' - qs st; have := hmr.2.1; have := hm.2.1; have := hmc.2.1; omega⟩) (fun H locs hp => ?_)
      have hk_6 : qk st_11 h0 = 9 := ((mo_J4_toString_0e30d a_8 _ _ _ hc_12).2.2 _ lthk_6).1.trans hk_6
      have hk_10 : qk st_11 a_8 = 2 := ((mo_J4_toString_0e30d a_8 _ _ _ hc_12).2.2 _ lthk_10).1.trans hk_10
      refine W.widen (k := qn st_11 - qn st) (n := qs st_11 - qs st) (by have := hm.1; have := hmc.1; omega) (by have := hm.2.1; have := hmc.2.1; omega) ?_
      have hm := hm.tr hmc
      exact J149 (r_13, l1, st_11) _ _ _ ⟨hf, hp, (lv_sub hl [] rfl), hm⟩
    · have hf := pif_f c_5 hf
      refine lv_aload_n hx hb dX6_takeText_121 rfl (lv_at hl 0 rfl) ?_
      refine lv_iconst (v := 1) hx hb dX6_takeText_122 (by decide) ?_
      refine lv_aload_n hx hb dX6_takeText_123 rfl (lv_at hl 0 rfl) ?_
      obtain ⟨hk_14, hf⟩ := gd_some hf
      refine q_gi (ci := 8) (C := RX6) (T := TX6) (N := 6) (k := 3) hx hb hts iRX6 hown hK hp hk_14 (by decide) rfl rfl (by decide) rfl (Or.inl (hts (.fieldLink RX6 26 "RecordBench$TextReader" "pos" "I") (by decide +kernel))) (fun _ h9 => h9) dX6_takeText_124 ?_
      obtain ⟨r_17, st_15, hc_16, hf⟩ := bnd_some hf
      have hmc := (mo_X6_refuse h0 1 (qI gs h0 3) _ _ _ hc_16).mo
      have hmr := mo_X6_takeText_130 h0 _ _ _ _ hf
      refine q_ci hp hA (va_runV (As := [.int 1, .int (qI gs h0 3)]) (rest := []) ⟨hx, hb, hml, hown, hts⟩ (c_X6_refuse l dC dI ka ad ct h0 1 (qI gs h0 3) _ _ _ hc_16 _) (cwV 2 hts gq_X6_takeText_X6_refuse_48 rfl rfl rfl (by decide +kernel) ⟨Nat.le_of_ble_eq_true rfl, Nat.le_of_ble_eq_true rfl⟩) ⟨PrC.blind _, q_rv8 hK hp hC hk_14, q_pre hp hK hN hZ hC hR hL hA⟩ rfl rfl hl.1 rfl (lv_room (Nat.le_of_ble_eq_true rfl)) dX6_takeText_127 ⟨by show qn gs - qn st + 0 ≤ qn st' - qn st; have := hmr.1; have := hm.1; have := hmc.1; omega, by show qs gs - qs st + 0 ≤ qs st' - qs st; have := hmr.2.1; have := hm.2.1; have := hmc.2.1; omega⟩) (fun H locs hp => ?_)
      have hk_14 : qk st_15 h0 = 9 := by rw [(mo_X6_refuse h0 1 (qI gs h0 3) _ _ _ hc_16).2.2.1]; exact hk_14
      refine W.widen (k := qn st_15 - qn st) (n := qs st_15 - qs st) (by have := hmc.1; omega) (by have := hmc.2.1; omega) ?_
      have hm := hm.tr hmc
      exact J130 (r_17, st_15) _ _ _ ⟨hf, hp, (lv_sub hl [] rfl), hm⟩
  refine W_blkA (fun (u : (Option Nat) × CS) H locs ls => match u with | (l1, gs) => fX6_takeText_105 h0 l1 gs = some (r, st') ∧ Cp (dC, dI) ka ad ct A s.heap gs H locs ∧ lv_has ls 3 [(0, .ref (ad h0)), (1, va_rf (Option.map ad l1))] ∧ Mo st gs) (fun (u : (Option Nat) × CS) ls => match u with | (l1, gs) => F0 m 105 ls []) (fun (u : (Option Nat) × CS) => match u with | (l1, gs) => qn gs - qn st) (fun (u : (Option Nat) × CS) => match u with | (l1, gs) => qs gs - qs st) ?_ (fun J105 => ?_)
  · intro u H locs ls hu
    obtain ⟨l1, gs⟩ := u
    obtain ⟨hf, hp, hl, hm⟩ := hu
    show W p l e _ s m _ below meth c _ _ (qn gs - qn st) (qs gs - qs st) _ (F0 m 105 ls [])
    unfold fX6_takeText_105 at hf
    refine lv_aload_n hx hb dX6_takeText_105 rfl (lv_at hl 0 rfl) ?_
    obtain ⟨hk_18, hf⟩ := gd_some hf
    refine q_gp (ci := 8) (C := RX6) (T := TX6) (N := 6) (k := 0) hx hb hts iRX6 hown hK hp hk_18 (by decide) rfl rfl (by decide) rfl (Or.inl (hts (.fieldLink RX6 9 "RecordBench$TextReader" "tape" "LRecordBench$Row;") (by decide +kernel))) (fun _ h9 => h9) dX6_takeText_106 ?_
    refine lv_aload_n hx hb dX6_takeText_109 rfl (lv_at hl 0 rfl) ?_
    refine q_gi (ci := 8) (C := RX6) (T := TX6) (N := 6) (k := 3) hx hb hts iRX6 hown hK hp hk_18 (by decide) rfl rfl (by decide) rfl (Or.inl (hts (.fieldLink RX6 26 "RecordBench$TextReader" "pos" "I") (by decide +kernel))) (fun _ h9 => h9) dX6_takeText_110 ?_
    obtain ⟨a_19, ha_20, hf⟩ := ono_some hf
    refine o_at1 ha_20 ?_
    obtain ⟨hk_21, hf⟩ := gd_some hf
    obtain ⟨r_24, st_22, hc_23, hf⟩ := bnd_some hf
    have hmc := (mo_X5_byteAt a_19 (qI gs h0 3) _ _ _ hc_23).mo
    have hmr := mo_X6_takeText_116 h0 _ _ _ _ _ hf
    refine q_ci hp hA (va_runV (As := [.int (qI gs h0 3)]) (rest := []) ⟨hx, hb, hml, hown, hts⟩ (c_X5_byteAt l dC dI ka ad ct a_19 (qI gs h0 3) _ _ _ hc_23 _) (cwV 1 hts gq_X6_takeText_X5_byteAt_150 rfl rfl rfl (by decide +kernel) ⟨Nat.le_of_ble_eq_true rfl, Nat.le_of_ble_eq_true rfl⟩) ⟨PrC.blind _, q_rv7 hK hp hC hk_21, q_pre hp hK hN hZ hC hR hL hA⟩ rfl rfl hl.1 rfl (lv_room (Nat.le_of_ble_eq_true rfl)) dX6_takeText_113 ⟨by show qn gs - qn st + 0 ≤ qn st' - qn st; have := hmr.1; have := hm.1; have := hmc.1; omega, by show qs gs - qs st + 0 ≤ qs st' - qs st; have := hmr.2.1; have := hm.2.1; have := hmc.2.1; omega⟩) (fun H locs hp => ?_)
    have hk_18 : qk st_22 h0 = 9 := by rw [(mo_X5_byteAt a_19 (qI gs h0 3) _ _ _ hc_23).2.2.1]; exact hk_18
    have hk_21 : qk st_22 a_19 = 8 := by rw [(mo_X5_byteAt a_19 (qI gs h0 3) _ _ _ hc_23).2.2.1]; exact hk_21
    refine W.widen (k := qn st_22 - qn st) (n := qs st_22 - qs st) (by have := hmc.1; omega) (by have := hmc.2.1; omega) ?_
    have hm := hm.tr hmc
    exact J116 (l1, r_24, st_22) _ _ _ ⟨hf, hp, (lv_sub hl [0, 1] rfl), hm⟩
  refine W_lpA (fun n46 (u : (Option Nat) × Int32 × CS) H locs ls => match u with | (l1, l2, gs) => fX6_takeText_46 h0 n46 l1 l2 gs = some (r, st') ∧ Cp (dC, dI) ka ad ct A s.heap gs H locs ∧ lv_has ls 3 [(0, .ref (ad h0)), (1, va_rf (Option.map ad l1)), (2, .int l2)] ∧ Mo st gs) (fun (u : (Option Nat) × Int32 × CS) ls => match u with | (l1, l2, gs) => F0 m 46 ls []) (fun (u : (Option Nat) × Int32 × CS) => match u with | (l1, l2, gs) => qn gs - qn st) (fun (u : (Option Nat) × Int32 × CS) => match u with | (l1, l2, gs) => qs gs - qs st) ?_ ?_ (fun J46 => ?_)
  · intro u H locs ls hu
    obtain ⟨l1, l2, gs⟩ := u
    obtain ⟨hf, hp, hl, hm⟩ := hu
    rw [fX6_takeText_46_z] at hf
    cases hf
  · intro n46 ih46 u H locs ls hu
    obtain ⟨l1, l2, gs⟩ := u
    obtain ⟨hf, hp, hl, hm⟩ := hu
    show W p l e _ s m _ below meth c _ _ (qn gs - qn st) (qs gs - qs st) _ (F0 m 46 ls [])
    refine W_blkA (fun (u : (Option Nat) × Int32 × (Option Nat) × CS) H locs ls => match u with | (l1, l2, s0, gs) => fX6_takeText_88 h0 (fX6_takeText_46 h0 n46) l1 l2 s0 gs = some (r, st') ∧ Cp (dC, dI) ka ad ct A s.heap gs H locs ∧ lv_has ls 3 [(0, .ref (ad h0)), (1, va_rf (Option.map ad l1)), (2, .int l2)] ∧ Mo st gs) (fun (u : (Option Nat) × Int32 × (Option Nat) × CS) ls => match u with | (l1, l2, s0, gs) => F0 m 88 ls [va_rf (Option.map ad s0)]) (fun (u : (Option Nat) × Int32 × (Option Nat) × CS) => match u with | (l1, l2, s0, gs) => qn gs - qn st) (fun (u : (Option Nat) × Int32 × (Option Nat) × CS) => match u with | (l1, l2, s0, gs) => qs gs - qs st) ?_ (fun J88 => ?_)
    · intro u H locs ls hu
      obtain ⟨l1, l2, s0, gs⟩ := u
      obtain ⟨hf, hp, hl, hm⟩ := hu
      show W p l e _ s m _ below meth c _ _ (qn gs - qn st) (qs gs - qs st) _ (F0 m 88 ls [va_rf (Option.map ad s0)])
      unfold fX6_takeText_88 at hf
      refine lv_pop hx hb dX6_takeText_88 (rf_cat _) ?_
      refine lv_aload_n hx hb dX6_takeText_89 rfl (lv_at hl 0 rfl) ?_
      refine lv_dup hx hb dX6_takeText_90 rfl ?_
      obtain ⟨hk_25, hf⟩ := gd_some hf
      refine q_gi (ci := 8) (C := RX6) (T := TX6) (N := 6) (k := 3) hx hb hts iRX6 hown hK hp hk_25 (by decide) rfl rfl (by decide) rfl (Or.inl (hts (.fieldLink RX6 26 "RecordBench$TextReader" "pos" "I") (by decide +kernel))) (fun _ h9 => h9) dX6_takeText_91 ?_
      refine lv_iconst (v := 1) hx hb dX6_takeText_94 (by decide) ?_
      refine lv_iadd hx hb dX6_takeText_95 ?_
      refine q_pi (ci := 8) (C := RX6) (T := TX6) (N := 6) (k := 3) (v := (qI gs h0 3) + 1) (ty := .int) hx hb hts iRX6 tyX6 tyX6_ok nmX6 hown hK hp hk_25 (by decide) rfl rfl (by decide) rfl (Or.inl (hts (.fieldLink RX6 26 "RecordBench$TextReader" "pos" "I") (by decide +kernel))) (fun _ h9 => h9) rfl (by decide +kernel) rfl rfl dX6_takeText_96 (fun H locs hp => ?_)
      obtain ⟨st_26, est_26, hf⟩ := nam_some hf
      rw [← est_26] at hp
      have hm := hm.wI est_26
      refine W.widen (k := qn st_26 - qn st) (n := qs st_26 - qs st) (by rw [est_26]; exact Nat.le_refl _) (by rw [est_26]; exact Nat.le_refl _) ?_
      have hk_25 : qk st_26 h0 = 9 := by rw [est_26]; exact hk_25
      obtain ⟨v_27, ev_27, hf⟩ := nam_some hf
      refine lv_iinc (v := v_27) (lv' := [(2, .int v_27), (0, .ref (ad h0)), (1, va_rf (Option.map ad l1))]) hx hb dX6_takeText_99 hl (k := 2) rfl ev_27.symm (by decide) (by simp [rf_cat, vc_i, vc_l, vc_r, vc_n]) (fun ls hl => ?_)
      refine lv_goto (tgt := 46) hx hb dX6_takeText_102 (by decide) ?_
      exact ih46 (l1, v_27, st_26) _ _ _ ⟨hf, hp, (lv_sub hl [1, 2, 0] rfl), hm⟩
    refine W_blkA (fun (u : (Option Nat) × Int32 × Int32 × (Option Nat) × CS) H locs ls => match u with | (l1, l2, s0, s1, gs) => fX6_takeText_84 h0 (fX6_takeText_46 h0 n46) l1 l2 s0 s1 gs = some (r, st') ∧ Cp (dC, dI) ka ad ct A s.heap gs H locs ∧ lv_has ls 3 [(0, .ref (ad h0)), (1, va_rf (Option.map ad l1)), (2, .int l2)] ∧ Mo st gs) (fun (u : (Option Nat) × Int32 × Int32 × (Option Nat) × CS) ls => match u with | (l1, l2, s0, s1, gs) => F0 m 84 ls [.int s0, va_rf (Option.map ad s1)]) (fun (u : (Option Nat) × Int32 × Int32 × (Option Nat) × CS) => match u with | (l1, l2, s0, s1, gs) => qn gs - qn st) (fun (u : (Option Nat) × Int32 × Int32 × (Option Nat) × CS) => match u with | (l1, l2, s0, s1, gs) => qs gs - qs st) ?_ (fun J84 => ?_)
    · intro u H locs ls hu
      obtain ⟨l1, l2, s0, s1, gs⟩ := u
      obtain ⟨hf, hp, hl, hm⟩ := hu
      show W p l e _ s m _ below meth c _ _ (qn gs - qn st) (qs gs - qs st) _ (F0 m 84 ls [.int s0, va_rf (Option.map ad s1)])
      unfold fX6_takeText_84 at hf
      refine lv_i2c (v := (s0.toUInt32 % 65536).toInt32) hx hb dX6_takeText_84 rfl ?_
      obtain ⟨a_28, ha_29, hf⟩ := ono_some hf
      refine o_at1 ha_29 ?_
      obtain ⟨hk_30, hf⟩ := gd_some hf
      obtain ⟨r_33, st_31, hc_32, hf⟩ := bnd_some hf
      have lthk_30 := hp.2.2.1.lt (i := a_28) (by rw [hk_30]; decide)
      have hmc := (mo_J4_append_cf468 a_28 ((s0.toUInt32 % 65536).toInt32) _ _ _ hc_32)
      have hmr := mo_X6_takeText_88 h0 (fX6_takeText_46 h0 n46) (mo_X6_takeText_46 h0 n46) _ _ _ _ _ _ hf
      refine q_cq hp hA (va_runV (As := [.int ((s0.toUInt32 % 65536).toInt32)]) (rest := []) ⟨hx, hb, hml, hown, hts⟩ (c_J4_append_cf468 l dC dI ka ad ct a_28 ((s0.toUInt32 % 65536).toInt32) _ _ _ hc_32 _) (cwV 1 hts gq_X6_takeText_J4_append_cf468_178 rfl rfl rfl (by decide +kernel) ⟨Nat.le_of_ble_eq_true rfl, Nat.le_of_ble_eq_true rfl⟩) ⟨PrC.blind _, q_rv1 hK hp hC hk_30, q_pre hp hK hN hZ hC hR hL hA⟩ rfl rfl hl.1 rfl (lv_room (Nat.le_of_ble_eq_true rfl)) dX6_takeText_85 ⟨by show qn gs - qn st + (qn st_31 - qn gs) ≤ qn st' - qn st; have := hmr.1; have := hm.1; have := hmc.1; omega, by show qs gs - qs st + (qs st_31 - qs gs) ≤ qs st' - qs st; have := hmr.2.1; have := hm.2.1; have := hmc.2.1; omega⟩) (fun H locs hp => ?_)
      have hk_30 : qk st_31 a_28 = 2 := ((mo_J4_append_cf468 a_28 ((s0.toUInt32 % 65536).toInt32) _ _ _ hc_32).2.2 _ lthk_30).1.trans hk_30
      refine W.widen (k := qn st_31 - qn st) (n := qs st_31 - qs st) (by have := hm.1; have := hmc.1; omega) (by have := hm.2.1; have := hmc.2.1; omega) ?_
      have hm := hm.tr hmc
      exact J88 (l1, l2, r_33, st_31) _ _ _ ⟨hf, hp, (lv_sub hl [0, 1, 2] rfl), hm⟩
    refine W_blkA (fun (u : (Option Nat) × Int32 × Int32 × CS) H locs ls => match u with | (l1, l2, s0, gs) => fX6_takeText_66 h0 (fX6_takeText_46 h0 n46) l1 l2 s0 gs = some (r, st') ∧ Cp (dC, dI) ka ad ct A s.heap gs H locs ∧ lv_has ls 3 [(0, .ref (ad h0)), (1, va_rf (Option.map ad l1)), (2, .int l2)] ∧ Mo st gs) (fun (u : (Option Nat) × Int32 × Int32 × CS) ls => match u with | (l1, l2, s0, gs) => F0 m 66 ls [.int s0]) (fun (u : (Option Nat) × Int32 × Int32 × CS) => match u with | (l1, l2, s0, gs) => qn gs - qn st) (fun (u : (Option Nat) × Int32 × Int32 × CS) => match u with | (l1, l2, s0, gs) => qs gs - qs st) ?_ (fun J66 => ?_)
    · intro u H locs ls hu
      obtain ⟨l1, l2, s0, gs⟩ := u
      obtain ⟨hf, hp, hl, hm⟩ := hu
      show W p l e _ s m _ below meth c _ _ (qn gs - qn st) (qs gs - qs st) _ (F0 m 66 ls [.int s0])
      unfold fX6_takeText_66 at hf
      refine lv_if_eq (tgt := 105) hx hb dX6_takeText_66 (by decide) (fun c_34 => ?_) (fun c_34 => ?_)
      · have hf := pif_t c_34 hf
        exact J105 (l1, gs) _ _ _ ⟨hf, hp, (lv_sub hl [0, 1] rfl), hm⟩
      · have hf := pif_f c_34 hf
        refine lv_aload_n hx hb dX6_takeText_69 rfl (lv_at hl 0 rfl) ?_
        obtain ⟨hk_35, hf⟩ := gd_some hf
        refine q_gp (ci := 8) (C := RX6) (T := TX6) (N := 6) (k := 2) hx hb hts iRX6 hown hK hp hk_35 (by decide) rfl rfl (by decide) rfl (Or.inl (hts (.fieldLink RX6 22 "RecordBench$TextReader" "letters" "Ljava/lang/StringBuilder;") (by decide +kernel))) (fun _ h9 => h9) dX6_takeText_70 ?_
        refine lv_aload_n hx hb dX6_takeText_73 rfl (lv_at hl 0 rfl) ?_
        refine q_gp (ci := 8) (C := RX6) (T := TX6) (N := 6) (k := 0) hx hb hts iRX6 hown hK hp hk_35 (by decide) rfl rfl (by decide) rfl (Or.inl (hts (.fieldLink RX6 9 "RecordBench$TextReader" "tape" "LRecordBench$Row;") (by decide +kernel))) (fun _ h9 => h9) dX6_takeText_74 ?_
        refine lv_aload_n hx hb dX6_takeText_77 rfl (lv_at hl 0 rfl) ?_
        refine q_gi (ci := 8) (C := RX6) (T := TX6) (N := 6) (k := 3) hx hb hts iRX6 hown hK hp hk_35 (by decide) rfl rfl (by decide) rfl (Or.inl (hts (.fieldLink RX6 26 "RecordBench$TextReader" "pos" "I") (by decide +kernel))) (fun _ h9 => h9) dX6_takeText_78 ?_
        obtain ⟨a_36, ha_37, hf⟩ := ono_some hf
        refine o_at1 ha_37 ?_
        obtain ⟨hk_38, hf⟩ := gd_some hf
        obtain ⟨r_41, st_39, hc_40, hf⟩ := bnd_some hf
        have hmc := (mo_X5_byteAt a_36 (qI gs h0 3) _ _ _ hc_40).mo
        have hmr := mo_X6_takeText_84 h0 (fX6_takeText_46 h0 n46) (mo_X6_takeText_46 h0 n46) _ _ _ _ _ _ _ hf
        refine q_ci hp hA (va_runV (As := [.int (qI gs h0 3)]) (rest := [va_rf (Option.map ad (qP gs h0 2))]) ⟨hx, hb, hml, hown, hts⟩ (c_X5_byteAt l dC dI ka ad ct a_36 (qI gs h0 3) _ _ _ hc_40 _) (cwV 1 hts gq_X6_takeText_X5_byteAt_150 rfl rfl rfl (by decide +kernel) ⟨Nat.le_of_ble_eq_true rfl, Nat.le_of_ble_eq_true rfl⟩) ⟨PrC.blind _, q_rv7 hK hp hC hk_38, q_pre hp hK hN hZ hC hR hL hA⟩ rfl rfl hl.1 rfl (lv_room (by simp [rf_cat, vc_i, vc_l, vc_r, vc_n])) dX6_takeText_81 ⟨by show qn gs - qn st + 0 ≤ qn st' - qn st; have := hmr.1; have := hm.1; have := hmc.1; omega, by show qs gs - qs st + 0 ≤ qs st' - qs st; have := hmr.2.1; have := hm.2.1; have := hmc.2.1; omega⟩) (fun H locs hp => ?_)
        have hk_35 : qk st_39 h0 = 9 := by rw [(mo_X5_byteAt a_36 (qI gs h0 3) _ _ _ hc_40).2.2.1]; exact hk_35
        have hk_38 : qk st_39 a_36 = 8 := by rw [(mo_X5_byteAt a_36 (qI gs h0 3) _ _ _ hc_40).2.2.1]; exact hk_38
        refine W.widen (k := qn st_39 - qn st) (n := qs st_39 - qs st) (by have := hmc.1; omega) (by have := hmc.2.1; omega) ?_
        have hm := hm.tr hmc
        exact J84 (l1, l2, r_41, (qP gs h0 2), st_39) _ _ _ ⟨hf, hp, (lv_sub hl [0, 1, 2] rfl), hm⟩
    refine W_blkA (fun (u : (Option Nat) × Int32 × Int32 × CS) H locs ls => match u with | (l1, l2, s0, gs) => fX6_takeText_63 h0 (fX6_takeText_46 h0 n46) l1 l2 s0 gs = some (r, st') ∧ Cp (dC, dI) ka ad ct A s.heap gs H locs ∧ lv_has ls 3 [(0, .ref (ad h0)), (1, va_rf (Option.map ad l1)), (2, .int l2)] ∧ Mo st gs) (fun (u : (Option Nat) × Int32 × Int32 × CS) ls => match u with | (l1, l2, s0, gs) => F0 m 63 ls [.int s0]) (fun (u : (Option Nat) × Int32 × Int32 × CS) => match u with | (l1, l2, s0, gs) => qn gs - qn st) (fun (u : (Option Nat) × Int32 × Int32 × CS) => match u with | (l1, l2, s0, gs) => qs gs - qs st) ?_ (fun J63 => ?_)
    · intro u H locs ls hu
      obtain ⟨l1, l2, s0, gs⟩ := u
      obtain ⟨hf, hp, hl, hm⟩ := hu
      show W p l e _ s m _ below meth c _ _ (qn gs - qn st) (qs gs - qs st) _ (F0 m 63 ls [.int s0])
      unfold fX6_takeText_63 at hf
      obtain ⟨r_44, st_42, hc_43, hf⟩ := bnd_some hf
      have hmc := (mo_X6_isQuotable s0 _ _ _ hc_43).mo
      have hmr := mo_X6_takeText_66 h0 (fX6_takeText_46 h0 n46) (mo_X6_takeText_46 h0 n46) _ _ _ _ _ _ hf
      refine q_ci hp hA (va_runS (As := [.int s0]) (rest := []) ⟨hx, hb, hml, hown, hts⟩ (c_X6_isQuotable l dC dI ka ad ct s0 _ _ _ hc_43 _) (va_cwS 1 hts gq_X6_takeText_X6_isQuotable_175 rfl rfl rfl (by decide +kernel) ⟨Nat.le_of_ble_eq_true rfl, Nat.le_of_ble_eq_true rfl⟩) ⟨PrC.blind _, q_pre hp hK hN hZ hC hR hL hA⟩ rfl rfl hl.1 rfl (lv_room (Nat.le_of_ble_eq_true rfl)) dX6_takeText_63 ⟨by show qn gs - qn st + 0 ≤ qn st' - qn st; have := hmr.1; have := hm.1; have := hmc.1; omega, by show qs gs - qs st + 0 ≤ qs st' - qs st; have := hmr.2.1; have := hm.2.1; have := hmc.2.1; omega⟩) (fun H locs hp => ?_)
      refine W.widen (k := qn st_42 - qn st) (n := qs st_42 - qs st) (by have := hmc.1; omega) (by have := hmc.2.1; omega) ?_
      have hm := hm.tr hmc
      exact J66 (l1, l2, r_44, st_42) _ _ _ ⟨hf, hp, (lv_sub hl [0, 1, 2] rfl), hm⟩
    rw [fX6_takeText_46_s] at hf
    refine lv_iload_n hx hb dX6_takeText_46 rfl (lv_at hl 2 rfl) ?_
    refine lv_bipush (v := 12) hx hb dX6_takeText_47 (by decide) ?_
    refine lv_icmp_ge (tgt := 105) hx hb dX6_takeText_49 (by decide) (fun c_45 => ?_) (fun c_45 => ?_)
    · have hf := pif_t c_45 hf
      exact J105 (l1, gs) _ _ _ ⟨hf, hp, (lv_sub hl [0, 1] rfl), hm⟩
    · have hf := pif_f c_45 hf
      refine lv_aload_n hx hb dX6_takeText_52 rfl (lv_at hl 0 rfl) ?_
      obtain ⟨hk_46, hf⟩ := gd_some hf
      refine q_gp (ci := 8) (C := RX6) (T := TX6) (N := 6) (k := 0) hx hb hts iRX6 hown hK hp hk_46 (by decide) rfl rfl (by decide) rfl (Or.inl (hts (.fieldLink RX6 9 "RecordBench$TextReader" "tape" "LRecordBench$Row;") (by decide +kernel))) (fun _ h9 => h9) dX6_takeText_53 ?_
      refine lv_aload_n hx hb dX6_takeText_56 rfl (lv_at hl 0 rfl) ?_
      refine q_gi (ci := 8) (C := RX6) (T := TX6) (N := 6) (k := 3) hx hb hts iRX6 hown hK hp hk_46 (by decide) rfl rfl (by decide) rfl (Or.inl (hts (.fieldLink RX6 26 "RecordBench$TextReader" "pos" "I") (by decide +kernel))) (fun _ h9 => h9) dX6_takeText_57 ?_
      obtain ⟨a_47, ha_48, hf⟩ := ono_some hf
      refine o_at1 ha_48 ?_
      obtain ⟨hk_49, hf⟩ := gd_some hf
      obtain ⟨r_52, st_50, hc_51, hf⟩ := bnd_some hf
      have hmc := (mo_X5_byteAt a_47 (qI gs h0 3) _ _ _ hc_51).mo
      have hmr := mo_X6_takeText_63 h0 (fX6_takeText_46 h0 n46) (mo_X6_takeText_46 h0 n46) _ _ _ _ _ _ hf
      refine q_ci hp hA (va_runV (As := [.int (qI gs h0 3)]) (rest := []) ⟨hx, hb, hml, hown, hts⟩ (c_X5_byteAt l dC dI ka ad ct a_47 (qI gs h0 3) _ _ _ hc_51 _) (cwV 1 hts gq_X6_takeText_X5_byteAt_150 rfl rfl rfl (by decide +kernel) ⟨Nat.le_of_ble_eq_true rfl, Nat.le_of_ble_eq_true rfl⟩) ⟨PrC.blind _, q_rv7 hK hp hC hk_49, q_pre hp hK hN hZ hC hR hL hA⟩ rfl rfl hl.1 rfl (lv_room (Nat.le_of_ble_eq_true rfl)) dX6_takeText_60 ⟨by show qn gs - qn st + 0 ≤ qn st' - qn st; have := hmr.1; have := hm.1; have := hmc.1; omega, by show qs gs - qs st + 0 ≤ qs st' - qs st; have := hmr.2.1; have := hm.2.1; have := hmc.2.1; omega⟩) (fun H locs hp => ?_)
      have hk_46 : qk st_50 h0 = 9 := by rw [(mo_X5_byteAt a_47 (qI gs h0 3) _ _ _ hc_51).2.2.1]; exact hk_46
      have hk_49 : qk st_50 a_47 = 8 := by rw [(mo_X5_byteAt a_47 (qI gs h0 3) _ _ _ hc_51).2.2.1]; exact hk_49
      refine W.widen (k := qn st_50 - qn st) (n := qs st_50 - qs st) (by have := hmc.1; omega) (by have := hmc.2.1; omega) ?_
      have hm := hm.tr hmc
      exact J63 (l1, l2, r_52, st_50) _ _ _ ⟨hf, hp, (lv_sub hl [0, 1, 2] rfl), hm⟩
  refine W_blkA (fun (u : (Option Nat) × CS) H locs ls => match u with | (l1, gs) => fX6_takeText_44 h0 l1 gs = some (r, st') ∧ Cp (dC, dI) ka ad ct A s.heap gs H locs ∧ lv_has ls 3 [(0, .ref (ad h0)), (1, va_rf (Option.map ad l1))] ∧ Mo st gs) (fun (u : (Option Nat) × CS) ls => match u with | (l1, gs) => F0 m 44 ls []) (fun (u : (Option Nat) × CS) => match u with | (l1, gs) => qn gs - qn st) (fun (u : (Option Nat) × CS) => match u with | (l1, gs) => qs gs - qs st) ?_ (fun J44 => ?_)
  · intro u H locs ls hu
    obtain ⟨l1, gs⟩ := u
    obtain ⟨hf, hp, hl, hm⟩ := hu
    show W p l e _ s m _ below meth c _ _ (qn gs - qn st) (qs gs - qs st) _ (F0 m 44 ls [])
    unfold fX6_takeText_44 at hf
    refine lv_iconst (v := 0) hx hb dX6_takeText_44 (by decide) ?_
    refine lv_istore_n (i := 2) (lv' := [(2, .int 0), (0, .ref (ad h0)), (1, va_rf (Option.map ad l1))]) hx hb dX6_takeText_45 rfl hl (by decide) (by simp [rf_cat, vc_i, vc_l, vc_r, vc_n]) (fun ls hl => ?_)
    exact J46 fuel (l1, 0, gs) _ _ _ ⟨hf, hp, (lv_sub hl [1, 2, 0] rfl), hm⟩
  refine W_blkA (fun (u : Int32 × CS) H locs ls => match u with | (s0, gs) => fX6_takeText_25 h0 s0 gs = some (r, st') ∧ Cp (dC, dI) ka ad ct A s.heap gs H locs ∧ lv_has ls 3 [] ∧ Mo st gs) (fun (u : Int32 × CS) ls => match u with | (s0, gs) => F0 m 25 ls [.int s0]) (fun (u : Int32 × CS) => match u with | (s0, gs) => qn gs - qn st) (fun (u : Int32 × CS) => match u with | (s0, gs) => qs gs - qs st) ?_ (fun J25 => ?_)
  · intro u H locs ls hu
    obtain ⟨s0, gs⟩ := u
    obtain ⟨hf, hp, hl, hm⟩ := hu
    show W p l e _ s m _ below meth c _ _ (qn gs - qn st) (qs gs - qs st) _ (F0 m 25 ls [.int s0])
    unfold fX6_takeText_25 at hf
    obtain ⟨hz, hf⟩ := gd_some hf
    obtain ⟨e1, e2⟩ := pr_some hf
    refine W.widen (k := qn st' - qn st) (n := qs st' - qs st) (by rw [e2]; exact Nat.le_refl _) (by rw [e2]; exact Nat.le_refl _) ?_
    exact W.zret (v := s0) hx hb hr hz (fun t ht hW => ⟨⟨s0, (), rfl, e1, Cp.end e2 hp ht⟩, hp.2.1.F ht⟩) hp.2.1.2.2 dX6_takeText_25
  refine W_blkA (fun (u : (Option Nat) × Int32 × CS) H locs ls => match u with | (l1, s0, gs) => fX6_takeText_11 h0 l1 s0 gs = some (r, st') ∧ Cp (dC, dI) ka ad ct A s.heap gs H locs ∧ lv_has ls 3 [(0, .ref (ad h0)), (1, va_rf (Option.map ad l1))] ∧ Mo st gs) (fun (u : (Option Nat) × Int32 × CS) ls => match u with | (l1, s0, gs) => F0 m 11 ls [.int s0]) (fun (u : (Option Nat) × Int32 × CS) => match u with | (l1, s0, gs) => qn gs - qn st) (fun (u : (Option Nat) × Int32 × CS) => match u with | (l1, s0, gs) => qs gs - qs st) ?_ (fun J11 => ?_)
  · intro u H locs ls hu
    obtain ⟨l1, s0, gs⟩ := u
    obtain ⟨hf, hp, hl, hm⟩ := hu
    show W p l e _ s m _ below meth c _ _ (qn gs - qn st) (qs gs - qs st) _ (F0 m 11 ls [.int s0])
    unfold fX6_takeText_11 at hf
    refine lv_bipush (v := 34) hx hb dX6_takeText_11 (by decide) ?_
    refine lv_icmp_eq (tgt := 26) hx hb dX6_takeText_13 (by decide) (fun c_53 => ?_) (fun c_53 => ?_)
    · have hf := pif_t c_53 hf
      refine lv_aload_n hx hb dX6_takeText_26 rfl (lv_at hl 0 rfl) ?_
      refine lv_dup hx hb dX6_takeText_27 rfl ?_
      obtain ⟨hk_54, hf⟩ := gd_some hf
      refine q_gi (ci := 8) (C := RX6) (T := TX6) (N := 6) (k := 3) hx hb hts iRX6 hown hK hp hk_54 (by decide) rfl rfl (by decide) rfl (Or.inl (hts (.fieldLink RX6 26 "RecordBench$TextReader" "pos" "I") (by decide +kernel))) (fun _ h9 => h9) dX6_takeText_28 ?_
      refine lv_iconst (v := 1) hx hb dX6_takeText_31 (by decide) ?_
      refine lv_iadd hx hb dX6_takeText_32 ?_
      refine q_pi (ci := 8) (C := RX6) (T := TX6) (N := 6) (k := 3) (v := (qI gs h0 3) + 1) (ty := .int) hx hb hts iRX6 tyX6 tyX6_ok nmX6 hown hK hp hk_54 (by decide) rfl rfl (by decide) rfl (Or.inl (hts (.fieldLink RX6 26 "RecordBench$TextReader" "pos" "I") (by decide +kernel))) (fun _ h9 => h9) rfl (by decide +kernel) rfl rfl dX6_takeText_33 (fun H locs hp => ?_)
      obtain ⟨st_55, est_55, hf⟩ := nam_some hf
      rw [← est_55] at hp
      have hm := hm.wI est_55
      refine W.widen (k := qn st_55 - qn st) (n := qs st_55 - qs st) (by rw [est_55]; exact Nat.le_refl _) (by rw [est_55]; exact Nat.le_refl _) ?_
      have hk_54 : qk st_55 h0 = 9 := by rw [est_55]; exact hk_54
      refine lv_aload_n hx hb dX6_takeText_36 rfl (lv_at hl 0 rfl) ?_
      refine q_gp (ci := 8) (C := RX6) (T := TX6) (N := 6) (k := 2) hx hb hts iRX6 hown hK hp hk_54 (by decide) rfl rfl (by decide) rfl (Or.inl (hts (.fieldLink RX6 22 "RecordBench$TextReader" "letters" "Ljava/lang/StringBuilder;") (by decide +kernel))) (fun _ h9 => h9) dX6_takeText_37 ?_
      refine lv_iconst (v := 0) hx hb dX6_takeText_40 (by decide) ?_
      obtain ⟨a_56, ha_57, hf⟩ := ono_some hf
      refine o_at1 ha_57 ?_
      obtain ⟨hk_58, hf⟩ := gd_some hf
      obtain ⟨st_59, hc_60, hf⟩ := bnv_some hf
      have lthk_54 := hp.2.2.1.lt (i := h0) (by rw [hk_54]; decide)
      have lthk_58 := hp.2.2.1.lt (i := a_56) (by rw [hk_58]; decide)
      have hmc := (mo_J4_setLength_d00df a_56 0 _ _ hc_60)
      have hmr := mo_X6_takeText_44 h0 _ _ _ _ hf
      refine q_cv hp hA (va_runV (As := [.int 0]) (rest := []) ⟨hx, hb, hml, hown, hts⟩ (c_J4_setLength_d00df l dC dI ka ad ct a_56 0 _ _ hc_60 _) (cwV 1 hts gq_X6_takeText_J4_setLength_d00df_171 rfl rfl rfl (by decide +kernel) ⟨Nat.le_of_ble_eq_true rfl, Nat.le_of_ble_eq_true rfl⟩) ⟨PrC.blind _, q_rv1 hK hp hC hk_58, q_pre hp hK hN hZ hC hR hL hA⟩ rfl rfl hl.1 rfl (lv_room (Nat.le_of_ble_eq_true rfl)) dX6_takeText_41 ⟨by show qn st_55 - qn st + (qn st_59 - qn st_55) ≤ qn st' - qn st; have := hmr.1; have := hm.1; have := hmc.1; omega, by show qs st_55 - qs st + (qs st_59 - qs st_55) ≤ qs st' - qs st; have := hmr.2.1; have := hm.2.1; have := hmc.2.1; omega⟩) (fun H locs hp => ?_)
      have hk_54 : qk st_59 h0 = 9 := ((mo_J4_setLength_d00df a_56 0 _ _ hc_60).2.2 _ lthk_54).1.trans hk_54
      have hk_58 : qk st_59 a_56 = 2 := ((mo_J4_setLength_d00df a_56 0 _ _ hc_60).2.2 _ lthk_58).1.trans hk_58
      refine W.widen (k := qn st_59 - qn st) (n := qs st_59 - qs st) (by have := hm.1; have := hmc.1; omega) (by have := hm.2.1; have := hmc.2.1; omega) ?_
      have hm := hm.tr hmc
      exact J44 (l1, st_59) _ _ _ ⟨hf, hp, (lv_sub hl [0, 1] rfl), hm⟩
    · have hf := pif_f c_53 hf
      refine lv_aload_n hx hb dX6_takeText_16 rfl (lv_at hl 0 rfl) ?_
      refine lv_iconst (v := 1) hx hb dX6_takeText_17 (by decide) ?_
      refine lv_aload_n hx hb dX6_takeText_18 rfl (lv_at hl 0 rfl) ?_
      obtain ⟨hk_62, hf⟩ := gd_some hf
      refine q_gi (ci := 8) (C := RX6) (T := TX6) (N := 6) (k := 3) hx hb hts iRX6 hown hK hp hk_62 (by decide) rfl rfl (by decide) rfl (Or.inl (hts (.fieldLink RX6 26 "RecordBench$TextReader" "pos" "I") (by decide +kernel))) (fun _ h9 => h9) dX6_takeText_19 ?_
      obtain ⟨r_65, st_63, hc_64, hf⟩ := bnd_some hf
      have hmc := (mo_X6_refuse h0 1 (qI gs h0 3) _ _ _ hc_64).mo
      have hmr := mo_X6_takeText_25 h0 _ _ _ _ hf
      refine q_ci hp hA (va_runV (As := [.int 1, .int (qI gs h0 3)]) (rest := []) ⟨hx, hb, hml, hown, hts⟩ (c_X6_refuse l dC dI ka ad ct h0 1 (qI gs h0 3) _ _ _ hc_64 _) (cwV 2 hts gq_X6_takeText_X6_refuse_48 rfl rfl rfl (by decide +kernel) ⟨Nat.le_of_ble_eq_true rfl, Nat.le_of_ble_eq_true rfl⟩) ⟨PrC.blind _, q_rv8 hK hp hC hk_62, q_pre hp hK hN hZ hC hR hL hA⟩ rfl rfl hl.1 rfl (lv_room (Nat.le_of_ble_eq_true rfl)) dX6_takeText_22 ⟨by show qn gs - qn st + 0 ≤ qn st' - qn st; have := hmr.1; have := hm.1; have := hmc.1; omega, by show qs gs - qs st + 0 ≤ qs st' - qs st; have := hmr.2.1; have := hm.2.1; have := hmc.2.1; omega⟩) (fun H locs hp => ?_)
      have hk_62 : qk st_63 h0 = 9 := by rw [(mo_X6_refuse h0 1 (qI gs h0 3) _ _ _ hc_64).2.2.1]; exact hk_62
      refine W.widen (k := qn st_63 - qn st) (n := qs st_63 - qs st) (by have := hmc.1; omega) (by have := hmc.2.1; omega) ?_
      have hm := hm.tr hmc
      exact J25 (r_65, st_63) _ _ _ ⟨hf, hp, (lv_sub hl [] rfl), hm⟩
  unfold fX6_takeText at hf
  refine lv_aload_n hx hb dX6_takeText_0 rfl (lv_at hl 0 rfl) ?_
  obtain ⟨hk_66, hf⟩ := gd_some hf
  refine q_gp (ci := 8) (C := RX6) (T := TX6) (N := 6) (k := 0) hx hb hts iRX6 hown hK hp hk_66 (by decide) rfl rfl (by decide) rfl (Or.inl (hts (.fieldLink RX6 9 "RecordBench$TextReader" "tape" "LRecordBench$Row;") (by decide +kernel))) (fun _ h9 => h9) dX6_takeText_1 ?_
  refine lv_aload_n hx hb dX6_takeText_4 rfl (lv_at hl 0 rfl) ?_
  refine q_gi (ci := 8) (C := RX6) (T := TX6) (N := 6) (k := 3) hx hb hts iRX6 hown hK hp hk_66 (by decide) rfl rfl (by decide) rfl (Or.inl (hts (.fieldLink RX6 26 "RecordBench$TextReader" "pos" "I") (by decide +kernel))) (fun _ h9 => h9) dX6_takeText_5 ?_
  obtain ⟨a_67, ha_68, hf⟩ := ono_some hf
  refine o_at1 ha_68 ?_
  obtain ⟨hk_69, hf⟩ := gd_some hf
  obtain ⟨r_72, st_70, hc_71, hf⟩ := bnd_some hf
  have hmc := (mo_X5_byteAt a_67 (qI st h0 3) _ _ _ hc_71).mo
  have hmr := mo_X6_takeText_11 h0 _ _ _ _ _ hf
  refine q_ci hp hA (va_runV (As := [.int (qI st h0 3)]) (rest := []) ⟨hx, hb, hml, hown, hts⟩ (c_X5_byteAt l dC dI ka ad ct a_67 (qI st h0 3) _ _ _ hc_71 _) (cwV 1 hts gq_X6_takeText_X5_byteAt_150 rfl rfl rfl (by decide +kernel) ⟨Nat.le_of_ble_eq_true rfl, Nat.le_of_ble_eq_true rfl⟩) ⟨PrC.blind _, q_rv7 hK hp hC hk_69, q_pre hp hK hN hZ hC hR hL hA⟩ rfl rfl hl.1 rfl (lv_room (Nat.le_of_ble_eq_true rfl)) dX6_takeText_8 ⟨by show qn st - qn st + 0 ≤ qn st' - qn st; have := hmr.1; have := hm.1; have := hmc.1; omega, by show qs st - qs st + 0 ≤ qs st' - qs st; have := hmr.2.1; have := hm.2.1; have := hmc.2.1; omega⟩) (fun H locs hp => ?_)
  have hk_66 : qk st_70 h0 = 9 := by rw [(mo_X5_byteAt a_67 (qI st h0 3) _ _ _ hc_71).2.2.1]; exact hk_66
  have hk_69 : qk st_70 a_67 = 8 := by rw [(mo_X5_byteAt a_67 (qI st h0 3) _ _ _ hc_71).2.2.1]; exact hk_69
  refine W.widen (k := qn st_70 - qn st) (n := qs st_70 - qs st) (by have := hmc.1; omega) (by have := hmc.2.1; omega) ?_
  have hm := hm.tr hmc
  exact J11 (p0, r_72, st_70) _ _ _ ⟨hf, hp, (lv_sub hl [0, 1] rfl), hm⟩
noncomputable def fX6_takeName_92 (h0 : Nat)  (s0 : Int32) (gs : CS) : Option (Int32 × CS) := gd (narrow .boolean (.int s0) = .int s0) (some (s0, gs))
set_option maxHeartbeats 1000000 in
theorem mo_X6_takeName_92 (h0 : Nat)   (s0 : Int32) (gs : CS) (r : Int32) (st' : CS) (hf : fX6_takeName_92 h0 s0 gs = some (r, st')) : Mo gs st' := by
  unfold fX6_takeName_92 at hf
  have hm : Mo gs gs := Mo.rf
  obtain ⟨hz, hf⟩ := gd_some hf
  obtain ⟨e1, e2⟩ := pr_some hf
  exact e2 ▸ hm
noncomputable def fX6_takeName_83 (h0 : Nat)  (l1 : Option Nat) (l3 : Int32) (l4 : Option Nat) (s0 : Int32) (gs : CS) : Option (Int32 × CS) := pif (s0 = 0) (ono l1 (fun a_2 => gd (qk gs a_2 = 3) (nam (wP gs a_2 4 l4) (fun st_5 => some ((1 : Int32), st_5))))) (gd (qk gs h0 = 9) (bnd (fX6_refuse h0 3 l3 gs) (fun r_9 st_7 => fX6_takeName_92 h0 r_9 st_7)))
set_option maxHeartbeats 1000000 in
theorem mo_X6_takeName_83 (h0 : Nat)   (l1 : Option Nat) (l3 : Int32) (l4 : Option Nat) (s0 : Int32) (gs : CS) (r : Int32) (st' : CS) (hf : fX6_takeName_83 h0 l1 l3 l4 s0 gs = some (r, st')) : Mo gs st' := by
  unfold fX6_takeName_83 at hf
  have hm : Mo gs gs := Mo.rf
  rcases pif_or hf with ⟨c_1, hf⟩ | ⟨c_1, hf⟩
  · obtain ⟨a_2, ha_3, hf⟩ := ono_some hf
    obtain ⟨hk_4, hf⟩ := gd_some hf
    obtain ⟨st_5, est_5, hf⟩ := nam_some hf
    have hm := hm.wP est_5
    obtain ⟨e1, e2⟩ := pr_some hf
    exact e2 ▸ hm
  · obtain ⟨hk_6, hf⟩ := gd_some hf
    obtain ⟨r_9, st_7, hc_8, hf⟩ := bnd_some hf
    have hm := hm.ke (mo_X6_refuse h0 3 l3 _ _ _ hc_8)
    exact hm.tr (mo_X6_takeName_92 h0 r_9 st_7 _ _ hf)
noncomputable def fX6_takeName_76 (h0 : Nat)  (s0 : Int32) (gs : CS) : Option (Int32 × CS) := gd (narrow .boolean (.int s0) = .int s0) (some (s0, gs))
set_option maxHeartbeats 1000000 in
theorem mo_X6_takeName_76 (h0 : Nat)   (s0 : Int32) (gs : CS) (r : Int32) (st' : CS) (hf : fX6_takeName_76 h0 s0 gs = some (r, st')) : Mo gs st' := by
  unfold fX6_takeName_76 at hf
  have hm : Mo gs gs := Mo.rf
  obtain ⟨hz, hf⟩ := gd_some hf
  obtain ⟨e1, e2⟩ := pr_some hf
  exact e2 ▸ hm
noncomputable def fX6_takeName_67 (h0 : Nat)  (l1 : Option Nat) (l2 : Option Nat) (l3 : Int32) (l4 : Option Nat) (s0 : Int32) (gs : CS) : Option (Int32 × CS) := pif (s0 = 0) (ono l2 (fun a_11 => gd (qk gs a_11 = 4) (bnd (fX1_hasName a_11 l4 gs) (fun r_16 st_14 => fX6_takeName_83 h0 l1 l3 l4 r_16 st_14)))) (gd (qk gs h0 = 9) (bnd (fX6_refuse h0 1 l3 gs) (fun r_20 st_18 => fX6_takeName_76 h0 r_20 st_18)))
set_option maxHeartbeats 1000000 in
theorem mo_X6_takeName_67 (h0 : Nat)   (l1 : Option Nat) (l2 : Option Nat) (l3 : Int32) (l4 : Option Nat) (s0 : Int32) (gs : CS) (r : Int32) (st' : CS) (hf : fX6_takeName_67 h0 l1 l2 l3 l4 s0 gs = some (r, st')) : Mo gs st' := by
  unfold fX6_takeName_67 at hf
  have hm : Mo gs gs := Mo.rf
  rcases pif_or hf with ⟨c_10, hf⟩ | ⟨c_10, hf⟩
  · obtain ⟨a_11, ha_12, hf⟩ := ono_some hf
    obtain ⟨hk_13, hf⟩ := gd_some hf
    obtain ⟨r_16, st_14, hc_15, hf⟩ := bnd_some hf
    have hm := hm.ke (mo_X1_hasName a_11 l4 _ _ _ hc_15)
    exact hm.tr (mo_X6_takeName_83 h0 l1 l3 l4 r_16 st_14 _ _ hf)
  · obtain ⟨hk_17, hf⟩ := gd_some hf
    obtain ⟨r_20, st_18, hc_19, hf⟩ := bnd_some hf
    have hm := hm.ke (mo_X6_refuse h0 1 l3 _ _ _ hc_19)
    exact hm.tr (mo_X6_takeName_76 h0 r_20 st_18 _ _ hf)
noncomputable def fX6_takeName_57 (h0 : Nat)  (l1 : Option Nat) (l2 : Option Nat) (l3 : Int32) (l4 : Option Nat) (s0 : Int32) (gs : CS) : Option (Int32 × CS) := pif (s0 = 0) (bnd (fX6_kindOf l4 gs) (fun r_24 st_22 => fX6_takeName_67 h0 l1 l2 l3 l4 r_24 st_22)) (some ((1 : Int32), gs))
set_option maxHeartbeats 1000000 in
theorem mo_X6_takeName_57 (h0 : Nat)   (l1 : Option Nat) (l2 : Option Nat) (l3 : Int32) (l4 : Option Nat) (s0 : Int32) (gs : CS) (r : Int32) (st' : CS) (hf : fX6_takeName_57 h0 l1 l2 l3 l4 s0 gs = some (r, st')) : Mo gs st' := by
  unfold fX6_takeName_57 at hf
  have hm : Mo gs gs := Mo.rf
  rcases pif_or hf with ⟨c_21, hf⟩ | ⟨c_21, hf⟩
  · obtain ⟨r_24, st_22, hc_23, hf⟩ := bnd_some hf
    have hm := hm.ke (mo_X6_kindOf l4 _ _ _ hc_23)
    exact hm.tr (mo_X6_takeName_67 h0 l1 l2 l3 l4 r_24 st_22 _ _ hf)
  · obtain ⟨e1, e2⟩ := pr_some hf
    exact e2 ▸ hm
noncomputable def fX6_takeName_49 (h0 : Nat)  (s0 : Int32) (gs : CS) : Option (Int32 × CS) := gd (narrow .boolean (.int s0) = .int s0) (some (s0, gs))
set_option maxHeartbeats 1000000 in
theorem mo_X6_takeName_49 (h0 : Nat)   (s0 : Int32) (gs : CS) (r : Int32) (st' : CS) (hf : fX6_takeName_49 h0 s0 gs = some (r, st')) : Mo gs st' := by
  unfold fX6_takeName_49 at hf
  have hm : Mo gs gs := Mo.rf
  obtain ⟨hz, hf⟩ := gd_some hf
  obtain ⟨e1, e2⟩ := pr_some hf
  exact e2 ▸ hm
noncomputable def fX6_takeName_35 (h0 : Nat)  (l1 : Option Nat) (l2 : Option Nat) (l3 : Int32) (l4 : Option Nat) (s0 : Int32) (gs : CS) : Option (Int32 × CS) := pif (s0 ≤ 8) (ono l4 (fun a_26 => gd (qk gs a_26 = 1) (bnd (fJ0_equals_9ea2d a_26 (some 1) gs) (fun r_31 st_29 => fX6_takeName_57 h0 l1 l2 l3 l4 r_31 st_29)))) (gd (qk gs h0 = 9) (bnd (fX6_refuse h0 1 (l3 + 8) gs) (fun r_35 st_33 => fX6_takeName_49 h0 r_35 st_33)))
set_option maxHeartbeats 1000000 in
theorem mo_X6_takeName_35 (h0 : Nat)   (l1 : Option Nat) (l2 : Option Nat) (l3 : Int32) (l4 : Option Nat) (s0 : Int32) (gs : CS) (r : Int32) (st' : CS) (hf : fX6_takeName_35 h0 l1 l2 l3 l4 s0 gs = some (r, st')) : Mo gs st' := by
  unfold fX6_takeName_35 at hf
  have hm : Mo gs gs := Mo.rf
  rcases pif_or hf with ⟨c_25, hf⟩ | ⟨c_25, hf⟩
  · obtain ⟨a_26, ha_27, hf⟩ := ono_some hf
    obtain ⟨hk_28, hf⟩ := gd_some hf
    obtain ⟨r_31, st_29, hc_30, hf⟩ := bnd_some hf
    have hm := hm.ke (mo_J0_equals_9ea2d a_26 (some 1) _ _ _ hc_30)
    exact hm.tr (mo_X6_takeName_57 h0 l1 l2 l3 l4 r_31 st_29 _ _ hf)
  · obtain ⟨hk_32, hf⟩ := gd_some hf
    obtain ⟨r_35, st_33, hc_34, hf⟩ := bnd_some hf
    have hm := hm.ke (mo_X6_refuse h0 1 (l3 + 8) _ _ _ hc_34)
    exact hm.tr (mo_X6_takeName_49 h0 r_35 st_33 _ _ hf)
noncomputable def fX6_takeName_29 (h0 : Nat)  (s0 : Int32) (gs : CS) : Option (Int32 × CS) := gd (narrow .boolean (.int s0) = .int s0) (some (s0, gs))
set_option maxHeartbeats 1000000 in
theorem mo_X6_takeName_29 (h0 : Nat)   (s0 : Int32) (gs : CS) (r : Int32) (st' : CS) (hf : fX6_takeName_29 h0 s0 gs = some (r, st')) : Mo gs st' := by
  unfold fX6_takeName_29 at hf
  have hm : Mo gs gs := Mo.rf
  obtain ⟨hz, hf⟩ := gd_some hf
  obtain ⟨e1, e2⟩ := pr_some hf
  exact e2 ▸ hm
noncomputable def fX6_takeName_20 (h0 : Nat)  (l1 : Option Nat) (l2 : Option Nat) (l3 : Int32) (l4 : Option Nat) (s0 : Int32) (gs : CS) : Option (Int32 × CS) := pif (s0 = 0) (ono l4 (fun a_37 => gd (qk gs a_37 = 1) (bnd (fJ0_length_8abf5 a_37 gs) (fun r_42 st_40 => fX6_takeName_35 h0 l1 l2 l3 l4 r_42 st_40)))) (gd (qk gs h0 = 9) (bnd (fX6_refuse h0 1 l3 gs) (fun r_46 st_44 => fX6_takeName_29 h0 r_46 st_44)))
set_option maxHeartbeats 1000000 in
theorem mo_X6_takeName_20 (h0 : Nat)   (l1 : Option Nat) (l2 : Option Nat) (l3 : Int32) (l4 : Option Nat) (s0 : Int32) (gs : CS) (r : Int32) (st' : CS) (hf : fX6_takeName_20 h0 l1 l2 l3 l4 s0 gs = some (r, st')) : Mo gs st' := by
  unfold fX6_takeName_20 at hf
  have hm : Mo gs gs := Mo.rf
  rcases pif_or hf with ⟨c_36, hf⟩ | ⟨c_36, hf⟩
  · obtain ⟨a_37, ha_38, hf⟩ := ono_some hf
    obtain ⟨hk_39, hf⟩ := gd_some hf
    obtain ⟨r_42, st_40, hc_41, hf⟩ := bnd_some hf
    have hm := hm.ke (mo_J0_length_8abf5 a_37 _ _ _ hc_41)
    exact hm.tr (mo_X6_takeName_35 h0 l1 l2 l3 l4 r_42 st_40 _ _ hf)
  · obtain ⟨hk_43, hf⟩ := gd_some hf
    obtain ⟨r_46, st_44, hc_45, hf⟩ := bnd_some hf
    have hm := hm.ke (mo_X6_refuse h0 1 l3 _ _ _ hc_45)
    exact hm.tr (mo_X6_takeName_29 h0 r_46 st_44 _ _ hf)
noncomputable def fX6_takeName_13 (h0 : Nat)  (l1 : Option Nat) (l2 : Option Nat) (l3 : Int32) (s0 : Option Nat) (gs : CS) : Option (Int32 × CS) := ono s0 (fun a_47 => gd (qk gs a_47 = 1) (bnd (fJ0_isEmpty_aae02 a_47 gs) (fun r_52 st_50 => fX6_takeName_20 h0 l1 l2 l3 s0 r_52 st_50)))
set_option maxHeartbeats 1000000 in
theorem mo_X6_takeName_13 (h0 : Nat)   (l1 : Option Nat) (l2 : Option Nat) (l3 : Int32) (s0 : Option Nat) (gs : CS) (r : Int32) (st' : CS) (hf : fX6_takeName_13 h0 l1 l2 l3 s0 gs = some (r, st')) : Mo gs st' := by
  unfold fX6_takeName_13 at hf
  have hm : Mo gs gs := Mo.rf
  obtain ⟨a_47, ha_48, hf⟩ := ono_some hf
  obtain ⟨hk_49, hf⟩ := gd_some hf
  obtain ⟨r_52, st_50, hc_51, hf⟩ := bnd_some hf
  have hm := hm.ke (mo_J0_isEmpty_aae02 a_47 _ _ _ hc_51)
  exact hm.tr (mo_X6_takeName_20 h0 l1 l2 l3 s0 r_52 st_50 _ _ hf)
noncomputable def fX6_takeName_4 (h0 : Nat)  (l1 : Option Nat) (l2 : Option Nat) (gs : CS) : Option (Int32 × CS) := gd (qk gs h0 = 9) (nam (qI gs h0 3) (fun v_54 => bnd (fX6_takeWord h0 gs) (fun r_57 st_55 => fX6_takeName_13 h0 l1 l2 v_54 r_57 st_55)))
set_option maxHeartbeats 1000000 in
theorem mo_X6_takeName_4 (h0 : Nat)   (l1 : Option Nat) (l2 : Option Nat) (gs : CS) (r : Int32) (st' : CS) (hf : fX6_takeName_4 h0 l1 l2 gs = some (r, st')) : Mo gs st' := by
  unfold fX6_takeName_4 at hf
  have hm : Mo gs gs := Mo.rf
  obtain ⟨hk_53, hf⟩ := gd_some hf
  obtain ⟨v_54, ev_54, hf⟩ := nam_some hf
  obtain ⟨r_57, st_55, hc_56, hf⟩ := bnd_some hf
  have hm := hm.tr (mo_X6_takeWord h0 _ _ _ hc_56)
  exact hm.tr (mo_X6_takeName_13 h0 l1 l2 v_54 r_57 st_55 _ _ hf)
noncomputable def fX6_takeName (h0 : Nat) (p0 : Option Nat) (p1 : Option Nat) (st : CS) : Option (Int32 × CS) := gd (qk st h0 = 9) (bnv (fX6_skipBlanks h0 st) (fun st_59 => fX6_takeName_4 h0 p0 p1 st_59))
set_option maxHeartbeats 1000000 in
theorem mo_X6_takeName (h0 : Nat) (p0 : Option Nat) (p1 : Option Nat) (st : CS) (r : Int32) (st' : CS) (hf : fX6_takeName h0 p0 p1 st = some (r, st')) : Mo st st' := by
  unfold fX6_takeName at hf
  have hm : Mo st st := Mo.rf
  obtain ⟨hk_58, hf⟩ := gd_some hf
  obtain ⟨st_59, hc_60, hf⟩ := bnv_some hf
  have hm := hm.ke (mo_X6_skipBlanks h0 _ _ hc_60)
  exact hm.tr (mo_X6_takeName_4 h0 p0 p1 st_59 _ _ hf)
def wq_X6_takeName : List Cond := .code yX6_takeName cX6_takeName 5 (some .boolean) :: (([.fieldLink RX6 26 "RecordBench$TextReader" "pos" "I", .methodLink RX6 48 yX6_refuse, .instanceMethod yX6_refuse, .selects RX6 yX6_refuse yX6_refuse, .initialized RX6, .methodLink RX6 128 yX1_hasName, .instanceMethod yX1_hasName, .selects RX1 yX1_hasName yX1_hasName, .initialized RX1, .methodLink RX6 124 yX6_kindOf, .static yX6_kindOf, .methodLink RX6 120 yJ0_equals_9ea2d, .instanceMethod yJ0_equals_9ea2d, .selects RJ0 yJ0_equals_9ea2d yJ0_equals_9ea2d, .initialized RJ0, .methodLink RX6 115 yJ0_length_8abf5, .instanceMethod yJ0_length_8abf5, .selects RJ0 yJ0_length_8abf5 yJ0_length_8abf5, .methodLink RX6 70 yJ0_isEmpty_aae02, .instanceMethod yJ0_isEmpty_aae02, .selects RJ0 yJ0_isEmpty_aae02 yJ0_isEmpty_aae02, .methodLink RX6 111 yX6_takeWord, .instanceMethod yX6_takeWord, .selects RX6 yX6_takeWord yX6_takeWord, .methodLink RX6 39 yX6_skipBlanks, .instanceMethod yX6_skipBlanks, .selects RX6 yX6_skipBlanks yX6_skipBlanks, .code yX6_refuse cX6_refuse 3 (some .boolean), .fieldLink RX6 30 "RecordBench$TextReader" "fault" "I", .fieldLink RX6 33 "RecordBench$TextReader" "place" "I", .code yX1_hasName cX1_hasName 4 (some .boolean), .fieldLink RX1 11 "RecordBench$Make" "fields" "[LRecordBench$Field;", .methodLink RX1 32 yJ0_equals_9ea2d, .code yJ0_equals_9ea2d cJ0_equals_9ea2d 3 (some .boolean), .classLink RJ0 10 "java/lang/String", .fieldLink RJ0 38 "java/lang/String" "COMPACT_STRINGS" "Z", .fieldLink RJ0 15 "java/lang/String" "coder" "B", .fieldLink RJ0 9 "java/lang/String" "value" "[B", .methodLink RJ0 541 yJ1_equals_b5fdf, .static yJ1_equals_b5fdf, .initialized RJ1, .code yJ1_equals_b5fdf cJ1_equals_b5fdf 3 (some .boolean), .code yX6_kindOf cX6_kindOf 1 (some .int), .code yJ0_length_8abf5 cJ0_length_8abf5 1 (some .int), .methodLink RJ0 335 yJ0_coder_7d493, .instanceMethod yJ0_coder_7d493, .selects RJ0 yJ0_coder_7d493 yJ0_coder_7d493, .code yJ0_coder_7d493 cJ0_coder_7d493 1 (some .byte), .code yJ0_isEmpty_aae02 cJ0_isEmpty_aae02 1 (some .boolean), .code yX6_takeWord cX6_takeWord 2 (some (.object "java/lang/String")), .fieldLink RX6 22 "RecordBench$TextReader" "letters" "Ljava/lang/StringBuilder;", .fieldLink RX6 9 "RecordBench$TextReader" "tape" "LRecordBench$Row;", .methodLink RX6 182 yJ4_toString_0e30d, .instanceMethod yJ4_toString_0e30d, .selects RJ4 yJ4_toString_0e30d yJ4_toString_0e30d, .initialized RJ4, .methodLink RX6 188 yJ4_length_8abf5, .instanceMethod yJ4_length_8abf5, .selects RJ4 yJ4_length_8abf5 yJ4_length_8abf5, .methodLink RX6 178 yJ4_append_cf468, .instanceMethod yJ4_append_cf468, .selects RJ4 yJ4_append_cf468 yJ4_append_cf468, .methodLink RX6 150 yX5_byteAt, .instanceMethod yX5_byteAt, .selects RX5 yX5_byteAt yX5_byteAt, .initialized RX5, .methodLink RX6 108 yX6_isLetter, .instanceMethod yX6_isLetter, .selects RX6 yX6_isLetter yX6_isLetter, .methodLink RX6 42 yX5_size, .instanceMethod yX5_size, .selects RX5 yX5_size yX5_size, .methodLink RX6 171 yJ4_setLength_d00df, .instanceMethod yJ4_setLength_d00df, .selects RJ4 yJ4_setLength_d00df yJ4_setLength_d00df, .code yJ4_toString_0e30d cJ4_toString_0e30d 1 (some (.object "java/lang/String")), .instanceMethod yJ0_init_81219, .methodLink RJ4 137 yJ0_init_81219, .classLink RJ4 18 RJ0, .instantiable RJ0 4, .code yJ0_init_81219 cJ0_init_81219 2 none, .instanceMethod yJ0_init_db425, .methodLink RJ0 489 yJ0_init_db425, .code yJ0_init_db425 cJ0_init_db425 5 none, .methodLink RJ0 1 objectInit, .instanceMethod objectInit, .code objectInit ⟨#[0xb1]⟩ 1 none, .methodLink RJ0 54 yJ7_copyOfRange_39247, .static yJ7_copyOfRange_39247, .initialized RJ7, .methodLink RJ0 1047 ⟨"java/lang/AbstractStringBuilder", "isLatin1", "()Z"⟩, .sameMethod "java/lang/AbstractStringBuilder" "java/lang/AbstractStringBuilder" "isLatin1" "()Z", .selects RJ4 ⟨"java/lang/AbstractStringBuilder", "isLatin1", "()Z"⟩ yJ5_isLatin1_aae02, .instanceMethod yJ5_isLatin1_aae02, .initialized RJ5, .methodLink RJ0 549 ⟨"java/lang/AbstractStringBuilder", "length", "()I"⟩, .sameMethod "java/lang/AbstractStringBuilder" "java/lang/AbstractStringBuilder" "length" "()I", .instanceMethod yJ5_length_8abf5, .selects RJ4 ⟨"java/lang/AbstractStringBuilder", "length", "()I"⟩ yJ4_length_8abf5, .methodLink RJ0 552 ⟨"java/lang/AbstractStringBuilder", "getValue", "()[B"⟩, .sameMethod "java/lang/AbstractStringBuilder" "java/lang/AbstractStringBuilder" "getValue" "()[B", .selects RJ4 ⟨"java/lang/AbstractStringBuilder", "getValue", "()[B"⟩ yJ5_getValue_6d5f1, .instanceMethod yJ5_getValue_6d5f1, .code yJ7_copyOfRange_39247 cJ7_copyOfRange_39247 3 (some (.array .byte)), .classLink RJ7 311 "[B", .methodLink RJ7 339 yJ7_copyOfRangeByte_39247, .static yJ7_copyOfRangeByte_39247, .methodLink RJ7 310 ⟨"[B", "clone", "()Ljava/lang/Object;"⟩, .sameMethod "[B" "java/lang/Object" "clone" "()Ljava/lang/Object;", .native ⟨"java/lang/Object", "clone", "()Ljava/lang/Object;"⟩, .instanceMethod ⟨"java/lang/Object", "clone", "()Ljava/lang/Object;"⟩, .selects "[B" ⟨"[B", "clone", "()Ljava/lang/Object;"⟩ ⟨"java/lang/Object", "clone", "()Ljava/lang/Object;"⟩, .code yJ7_copyOfRangeByte_39247 cJ7_copyOfRangeByte_39247 5 (some (.array .byte)), .methodLink RJ7 304 Lib.Math.min.name, .static Lib.Math.min.name, .initialized "java/lang/Math", .code Lib.Math.min.name Lib.Math.min.code 2 (some .int), .methodLink RJ7 150 arraycopyName, .native arraycopyName, .static arraycopyName, .initialized "java/lang/System", .arrayClass .byte, .methodLink RJ7 343 yJ7_checkLength_df160, .static yJ7_checkLength_df160, .code yJ7_checkLength_df160 cJ7_checkLength_df160 2 none, .code yJ5_isLatin1_aae02 cJ5_isLatin1_aae02 1 (some .boolean), .fieldLink RJ5 18 "java/lang/String" "COMPACT_STRINGS" "Z", .fieldLink RJ5 22 "java/lang/AbstractStringBuilder" "coder" "B", .code yJ4_length_8abf5 cJ4_length_8abf5 1 (some .int), .methodLink RJ4 343 yJ5_length_8abf5, .superclass RJ4 RJ5, .code yJ5_length_8abf5 cJ5_length_8abf5 1 (some .int), .fieldLink RJ5 79 "java/lang/AbstractStringBuilder" "count" "I", .code yJ5_getValue_6d5f1 cJ5_getValue_6d5f1 1 (some (.array .byte)), .fieldLink RJ5 15 "java/lang/AbstractStringBuilder" "value" "[B", .code yJ4_append_cf468 cJ4_append_cf468 2 (some (.object "java/lang/StringBuilder")), .methodLink RJ4 50 yJ5_append_3fe6f, .sameMethod "java/lang/AbstractStringBuilder" "java/lang/AbstractStringBuilder" "append" "(C)Ljava/lang/AbstractStringBuilder;", .instanceMethod yJ5_append_3fe6f, .code yJ5_append_3fe6f cJ5_append_3fe6f 2 (some (.object "java/lang/AbstractStringBuilder")), .methodLink RJ5 191 yJ1_canEncode_fc78d, .static yJ1_canEncode_fc78d, .methodLink RJ5 83 ⟨"java/lang/AbstractStringBuilder", "isLatin1", "()Z"⟩, .methodLink RJ5 100 ⟨"java/lang/AbstractStringBuilder", "ensureCapacityInternal", "(I)V"⟩, .sameMethod "java/lang/AbstractStringBuilder" "java/lang/AbstractStringBuilder" "ensureCapacityInternal" "(I)V", .selects RJ4 ⟨"java/lang/AbstractStringBuilder", "ensureCapacityInternal", "(I)V"⟩ yJ5_ensureCapacityInternal_d00df, .instanceMethod yJ5_ensureCapacityInternal_d00df, .code yJ1_canEncode_fc78d cJ1_canEncode_fc78d 1 (some .boolean), .code yJ5_ensureCapacityInternal_d00df cJ5_ensureCapacityInternal_d00df 3 none, .methodLink RJ5 108 yJ7_copyOf_9075b, .static yJ7_copyOf_9075b, .methodLink RJ5 104 ⟨"java/lang/AbstractStringBuilder", "newCapacity", "(I)I"⟩, .sameMethod "java/lang/AbstractStringBuilder" "java/lang/AbstractStringBuilder" "newCapacity" "(I)I", .selects RJ4 ⟨"java/lang/AbstractStringBuilder", "newCapacity", "(I)I"⟩ yJ5_newCapacity_0f7a4, .instanceMethod yJ5_newCapacity_0f7a4, .code yJ7_copyOf_9075b cJ7_copyOf_9075b 3 (some (.array .byte)), .code yJ5_newCapacity_0f7a4 cJ5_newCapacity_0f7a4 6 (some .int), .constant RJ5 39 (2147483647), .methodLink RJ5 114 yJ8_newLength_cabcc, .static yJ8_newLength_cabcc, .initialized RJ8, .code yJ8_newLength_cabcc cJ8_newLength_cabcc 4 (some .int), .methodLink RJ8 194 Lib.Math.max.name, .static Lib.Math.max.name, .code Lib.Math.max.name Lib.Math.max.code 2 (some .int), .constant RJ8 200 (2147483639), .code yX5_byteAt cX5_byteAt 2 (some .int), .fieldLink RX5 21 "RecordBench$Row" "size" "I", .fieldLink RX5 15 "RecordBench$Row" "bytes" "[I", .code yX6_isLetter cX6_isLetter 3 (some .boolean), .code yX5_size cX5_size 1 (some .int), .code yJ4_setLength_d00df cJ4_setLength_d00df 2 none, .methodLink RJ4 333 yJ5_setLength_d00df, .sameMethod "java/lang/AbstractStringBuilder" "java/lang/AbstractStringBuilder" "setLength" "(I)V", .instanceMethod yJ5_setLength_d00df, .code yJ5_setLength_d00df cJ5_setLength_d00df 2 none, .fieldLink RJ5 73 "java/lang/AbstractStringBuilder" "maybeLatin1" "Z", .code yX6_skipBlanks cX6_skipBlanks 3 none, .methodLink RX6 189 yX6_isBlank, .static yX6_isBlank, .code yX6_isBlank cX6_isBlank 1 (some .boolean)] : List Cond) ++ wsX60 ++ wsX00 ++ wsX10 ++ wsJ00 ++ wsJ40 ++ wsX50)
theorem gs_wq_X6_takeName_wsX60 : GoodIn wq_X6_takeName wsX60 := fun w h => ⟨List.mem_cons_of_mem _ (List.mem_append_left _ (List.mem_append_left _ (List.mem_append_left _ (List.mem_append_left _ (List.mem_append_left _ (List.mem_append_right _ h)))))), (gt_wsX60 w h).2⟩
set_option maxRecDepth 20000 in
theorem gq_X6_takeName_X6_refuse_48 : GoodIn wq_X6_takeName (wsV RX6 48 RX6 yX6_refuse wq_X6_refuse) := goodIn_app (goodIn_r _ [2, 3, 4, 5] rfl rfl) (goodIn_ca (goodIn_r _ [28, 29, 30] rfl rfl) gs_wq_X6_takeName_wsX60)
theorem gs_wq_X6_takeName_wsX10 : GoodIn wq_X6_takeName wsX10 := fun w h => ⟨List.mem_cons_of_mem _ (List.mem_append_left _ (List.mem_append_left _ (List.mem_append_left _ (List.mem_append_right _ h)))), (gt_wsX10 w h).2⟩
theorem gs_wq_X6_takeName_wsX00 : GoodIn wq_X6_takeName wsX00 := fun w h => ⟨List.mem_cons_of_mem _ (List.mem_append_left _ (List.mem_append_left _ (List.mem_append_left _ (List.mem_append_left _ (List.mem_append_right _ h))))), (gt_wsX00 w h).2⟩
theorem gs_wq_X6_takeName_wsJ00 : GoodIn wq_X6_takeName wsJ00 := fun w h => ⟨List.mem_cons_of_mem _ (List.mem_append_left _ (List.mem_append_left _ (List.mem_append_right _ h))), (gt_wsJ00 w h).2⟩
set_option maxRecDepth 20000 in
theorem gq_X6_takeName_X1_hasName_128 : GoodIn wq_X6_takeName (wsV RX6 128 RX1 yX1_hasName wq_X1_hasName) := goodIn_app (goodIn_r _ [6, 7, 8, 9] rfl rfl) (goodIn_ca (goodIn_ca (goodIn_ca (goodIn_r _ [31, 32, 33, 13, 14, 15, 34, 35, 36, 37, 38, 39, 40, 41, 42] rfl rfl) gs_wq_X6_takeName_wsX10) gs_wq_X6_takeName_wsX00) gs_wq_X6_takeName_wsJ00)
set_option maxRecDepth 20000 in
theorem gq_X6_takeName_X6_kindOf_124 : GoodIn wq_X6_takeName (va_wsS RX6 124 yX6_kindOf wq_X6_kindOf) := goodIn_app (goodIn_r _ [10, 11, 5] rfl rfl) (goodIn_ca (goodIn_r _ [43, 12, 13, 14, 15, 34, 35, 36, 37, 38, 39, 40, 41, 42] rfl rfl) gs_wq_X6_takeName_wsJ00)
set_option maxRecDepth 20000 in
theorem gq_X6_takeName_J0_equals_9ea2d_120 : GoodIn wq_X6_takeName (wsV RX6 120 RJ0 yJ0_equals_9ea2d wq_J0_equals_9ea2d) := goodIn_app (goodIn_r _ [12, 13, 14, 15] rfl rfl) (goodIn_ca (goodIn_r _ [34, 35, 36, 37, 38, 39, 40, 41, 42] rfl rfl) gs_wq_X6_takeName_wsJ00)
set_option maxRecDepth 20000 in
theorem gq_X6_takeName_J0_length_8abf5_115 : GoodIn wq_X6_takeName (wsV RX6 115 RJ0 yJ0_length_8abf5 wq_J0_length_8abf5) := goodIn_app (goodIn_r _ [16, 17, 18, 15] rfl rfl) (goodIn_ca (goodIn_r _ [44, 38, 45, 46, 47, 15, 48, 36, 37] rfl rfl) gs_wq_X6_takeName_wsJ00)
set_option maxRecDepth 20000 in
theorem gq_X6_takeName_J0_isEmpty_aae02_70 : GoodIn wq_X6_takeName (wsV RX6 70 RJ0 yJ0_isEmpty_aae02 wq_J0_isEmpty_aae02) := goodIn_app (goodIn_r _ [19, 20, 21, 15] rfl rfl) (goodIn_ca (goodIn_r _ [49, 38] rfl rfl) gs_wq_X6_takeName_wsJ00)
theorem gs_wq_X6_takeName_wsJ40 : GoodIn wq_X6_takeName wsJ40 := fun w h => ⟨List.mem_cons_of_mem _ (List.mem_append_left _ (List.mem_append_right _ h)), (gt_wsJ40 w h).2⟩
theorem gs_wq_X6_takeName_wsX50 : GoodIn wq_X6_takeName wsX50 := fun w h => ⟨List.mem_cons_of_mem _ (List.mem_append_right _ h), (gt_wsX50 w h).2⟩
set_option maxRecDepth 20000 in
theorem gq_X6_takeName_X6_takeWord_111 : GoodIn wq_X6_takeName (wsV RX6 111 RX6 yX6_takeWord wq_X6_takeWord) := goodIn_app (goodIn_r _ [22, 23, 24, 5] rfl rfl) (goodIn_ca (goodIn_ca (goodIn_ca (goodIn_ca (goodIn_r _ [50, 51, 1, 52, 53, 54, 55, 56, 57, 58, 59, 60, 61, 62, 63, 64, 65, 66, 67, 68, 69, 5, 70, 71, 72, 73, 74, 75, 76, 77, 15, 78, 79, 80, 81, 82, 83, 84, 85, 86, 87, 37, 38, 88, 89, 90, 91, 92, 93, 94, 95, 96, 97, 98, 99, 100, 101, 102, 103, 104, 105, 106, 107, 108, 109, 110, 111, 112, 113, 114, 115, 116, 117, 118, 119, 120, 121, 122, 123, 124, 125, 126, 127, 128, 129, 130, 131, 132, 133, 134, 135, 136, 137, 138, 139, 140, 141, 142, 41, 143, 144, 145, 146, 147, 148, 149, 150, 151, 152, 153, 154, 155, 156, 157, 158, 159, 160, 161, 162, 163, 164, 165, 166, 167, 168, 169, 170, 171, 172, 173, 174, 175, 176, 177] rfl rfl) gs_wq_X6_takeName_wsX60) gs_wq_X6_takeName_wsJ00) gs_wq_X6_takeName_wsJ40) gs_wq_X6_takeName_wsX50)
set_option maxRecDepth 20000 in
theorem gq_X6_takeName_X6_skipBlanks_39 : GoodIn wq_X6_takeName (wsV RX6 39 RX6 yX6_skipBlanks wq_X6_skipBlanks) := goodIn_app (goodIn_r _ [25, 26, 27, 5] rfl rfl) (goodIn_ca (goodIn_ca (goodIn_r _ [178, 1, 52, 70, 71, 72, 66, 63, 64, 65, 179, 180, 5, 171, 168, 167, 169, 181] rfl rfl) gs_wq_X6_takeName_wsX60) gs_wq_X6_takeName_wsX50)
set_option maxHeartbeats 4000000 in
set_option maxRecDepth 100000 in
theorem c_X6_takeName (l : Launch) (dC : Nat → ClassId) (dI : Nat → Nat → Nat) (ka ad : Nat → Nat) (ct : Nat → ClassId) (h0 : Nat) (p0 : Option Nat) (p1 : Option Nat) (st st' : CS) (r : Int32) (hf : fX6_takeName h0 p0 p1 st = some (r, st')) (sz : Nat) : Met l yX6_takeName wq_X6_takeName ({ frames := 7, cells := (qn st' - qn st), slots := (qs st' - qs st), locals := 201 }) (va_Pc [.ref (ad h0), va_rf (Option.map ad p0), va_rf (Option.map ad p1)] (PrC (dC, dI) ct ka ad st sz)) (va_Qi (fun r' (_ : Unit) => r' = r) (fun _ => CB (dC, dI) ct ka ad st' (aC ad st sz)) (aC ad st sz)) (qn st' - qn st) (qs st' - qs st) (aC ad st sz) := by
  refine Met.ofW (cc := cX6_takeName) (maxL := 5) (ret := (some .boolean)) (by decide) rfl ?_
  intro p e s m args below meth c s₁ B hml hv
  obtain ⟨rfl, hsz, hw0, hK, hN, hZ, hC, hR, hL, hw1, hw2⟩ := hv
  have hx := B.exec
  have hb := B.bytes
  have hr := B.returns
  have hts := atoms_spec (ws := wq_X6_takeName) B.pre
  have hown : s.vm.findClass RX6 = some m.cls := findClass_of_methodNamed B.named
  have iRX6 : ∀ w ∈ u_ws RX6 TX6 6, w ∈ wq_X6_takeName := fun w h => List.mem_cons_of_mem _ (List.mem_append_left _ (List.mem_append_left _ (List.mem_append_left _ (List.mem_append_left _ (List.mem_append_left _ (List.mem_append_right _ h))))))
  have iRX0 : ∀ w ∈ u_ws RX0 TX0 7, w ∈ wq_X6_takeName := fun w h => List.mem_cons_of_mem _ (List.mem_append_left _ (List.mem_append_left _ (List.mem_append_left _ (List.mem_append_left _ (List.mem_append_right _ h)))))
  subst hsz
  have hp : Cp (dC, dI) ka ad ct (aC ad st s.heap.size) s.heap st s.heap [] := ⟨fun i a b => ⟨hw0 i a b, Or.inl ⟨i, a, b, rfl⟩⟩, va_S.rf, hw1, hw2⟩
  generalize hAe : aC ad st s.heap.size = A at hp hZ hC ⊢
  have hA : ∀ q : Nat, s.heap.size ≤ q → A q := fun q h => by rw [← hAe]; exact Or.inr h
  have hl := lv_entry ([.ref (ad h0), va_rf (Option.map ad p0), va_rf (Option.map ad p1)]) (n := 5) (by simp [lg_sl, rf_cat, vc_i, vc_l, vc_r, vc_n])
  rw [lg_entry_eq]
  generalize (lg_sl ([.ref (ad h0), va_rf (Option.map ad p0), va_rf (Option.map ad p1)]) ++ List.replicate (5 - (lg_sl ([.ref (ad h0), va_rf (Option.map ad p0), va_rf (Option.map ad p1)])).length) Slot.unset).toArray = ls at hl ⊢
  have hl : lv_has ls 5 [(0, .ref (ad h0)), (1, va_rf (Option.map ad p0)), (2, va_rf (Option.map ad p1))] := by simpa [lv_args, rf_cat, vc_i, vc_l, vc_r, vc_n] using hl
  have hm : Mo st st := Mo.rf
  refine W.widen (k := qn st - qn st) (n := qs st - qs st) (Nat.zero_le _) (Nat.zero_le _) ?_
  refine W_blkA (fun (u : Int32 × CS) H locs ls => match u with | (s0, gs) => fX6_takeName_92 h0 s0 gs = some (r, st') ∧ Cp (dC, dI) ka ad ct A s.heap gs H locs ∧ lv_has ls 5 [] ∧ Mo st gs) (fun (u : Int32 × CS) ls => match u with | (s0, gs) => F0 m 92 ls [.int s0]) (fun (u : Int32 × CS) => match u with | (s0, gs) => qn gs - qn st) (fun (u : Int32 × CS) => match u with | (s0, gs) => qs gs - qs st) ?_ (fun J92 => ?_)
  · intro u H locs ls hu
    obtain ⟨s0, gs⟩ := u
    obtain ⟨hf, hp, hl, hm⟩ := hu
    show W p l e _ s m _ below meth c _ _ (qn gs - qn st) (qs gs - qs st) _ (F0 m 92 ls [.int s0])
    unfold fX6_takeName_92 at hf
    obtain ⟨hz, hf⟩ := gd_some hf
    obtain ⟨e1, e2⟩ := pr_some hf
    refine W.widen (k := qn st' - qn st) (n := qs st' - qs st) (by rw [e2]; exact Nat.le_refl _) (by rw [e2]; exact Nat.le_refl _) ?_
    exact W.zret (v := s0) hx hb hr hz (fun t ht hW => ⟨⟨s0, (), rfl, e1, Cp.end e2 hp ht⟩, hp.2.1.F ht⟩) hp.2.1.2.2 dX6_takeName_92
  refine W_blkA (fun (u : (Option Nat) × Int32 × (Option Nat) × Int32 × CS) H locs ls => match u with | (l1, l3, l4, s0, gs) => fX6_takeName_83 h0 l1 l3 l4 s0 gs = some (r, st') ∧ Cp (dC, dI) ka ad ct A s.heap gs H locs ∧ lv_has ls 5 [(0, .ref (ad h0)), (1, va_rf (Option.map ad l1)), (3, .int l3), (4, va_rf (Option.map ad l4))] ∧ Mo st gs) (fun (u : (Option Nat) × Int32 × (Option Nat) × Int32 × CS) ls => match u with | (l1, l3, l4, s0, gs) => F0 m 83 ls [.int s0]) (fun (u : (Option Nat) × Int32 × (Option Nat) × Int32 × CS) => match u with | (l1, l3, l4, s0, gs) => qn gs - qn st) (fun (u : (Option Nat) × Int32 × (Option Nat) × Int32 × CS) => match u with | (l1, l3, l4, s0, gs) => qs gs - qs st) ?_ (fun J83 => ?_)
  · intro u H locs ls hu
    obtain ⟨l1, l3, l4, s0, gs⟩ := u
    obtain ⟨hf, hp, hl, hm⟩ := hu
    show W p l e _ s m _ below meth c _ _ (qn gs - qn st) (qs gs - qs st) _ (F0 m 83 ls [.int s0])
    unfold fX6_takeName_83 at hf
    refine lv_if_eq (tgt := 93) hx hb dX6_takeName_83 (by decide) (fun c_1 => ?_) (fun c_1 => ?_)
    · have hf := pif_t c_1 hf
      refine o_aload_n hx hb dX6_takeName_93 rfl (lv_at hl 1 rfl) ?_
      refine o_aload hx hb dX6_takeName_94 (lv_at hl 3 rfl) ?_
      obtain ⟨a_2, ha_3, hf⟩ := ono_some hf
      refine o_at1 ha_3 ?_
      obtain ⟨hk_4, hf⟩ := gd_some hf
      refine q_pp (ci := 2) (C := RX0) (T := TX0) (N := 7) (k := 4) (v := l4) (ty := (.object "java/lang/String")) hx hb hts iRX0 tyX0 tyX0_ok nmX0 hown hK hp hk_4 (by decide) rfl rfl (by decide) rfl (Or.inr ⟨_, va_Nw.use rfl (hN.1 (.fieldLinkNest RX6 66 "RecordBench$Field" "name" "Ljava/lang/String;" "RecordBench") (by decide +kernel))⟩) (fun _ h9 => h9) rfl (by decide +kernel) (rf_nar rfl _) dX6_takeName_96 (fun H locs hp => ?_)
      obtain ⟨st_5, est_5, hf⟩ := nam_some hf
      rw [← est_5] at hp
      have hm := hm.wP est_5
      refine W.widen (k := qn st_5 - qn st) (n := qs st_5 - qs st) (by rw [est_5]; exact Nat.le_refl _) (by rw [est_5]; exact Nat.le_refl _) ?_
      have hk_4 : qk st_5 a_2 = 3 := by rw [est_5]; exact hk_4
      refine lv_iconst (v := 1) hx hb dX6_takeName_99 (by decide) ?_
      obtain ⟨e1, e2⟩ := pr_some hf
      refine W.widen (k := qn st' - qn st) (n := qs st' - qs st) (by rw [e2]; exact Nat.le_refl _) (by rw [e2]; exact Nat.le_refl _) ?_
      exact W.zret (v := 1) hx hb hr rfl (fun t ht hW => ⟨⟨1, (), rfl, e1, Cp.end e2 hp ht⟩, hp.2.1.F ht⟩) hp.2.1.2.2 dX6_takeName_100
    · have hf := pif_f c_1 hf
      refine lv_aload_n hx hb dX6_takeName_86 rfl (lv_at hl 0 rfl) ?_
      refine lv_iconst (v := 3) hx hb dX6_takeName_87 (by decide) ?_
      refine lv_iload_n hx hb dX6_takeName_88 rfl (lv_at hl 2 rfl) ?_
      obtain ⟨hk_6, hf⟩ := gd_some hf
      obtain ⟨r_9, st_7, hc_8, hf⟩ := bnd_some hf
      have hmc := (mo_X6_refuse h0 3 l3 _ _ _ hc_8).mo
      have hmr := mo_X6_takeName_92 h0 _ _ _ _ hf
      refine q_ci hp hA (va_runV (As := [.int 3, .int l3]) (rest := []) ⟨hx, hb, hml, hown, hts⟩ (c_X6_refuse l dC dI ka ad ct h0 3 l3 _ _ _ hc_8 _) (cwV 2 hts gq_X6_takeName_X6_refuse_48 rfl rfl rfl (by decide +kernel) ⟨Nat.le_of_ble_eq_true rfl, Nat.le_of_ble_eq_true rfl⟩) ⟨PrC.blind _, q_rv8 hK hp hC hk_6, q_pre hp hK hN hZ hC hR hL hA⟩ rfl rfl hl.1 rfl (lv_room (Nat.le_of_ble_eq_true rfl)) dX6_takeName_89 ⟨by show qn gs - qn st + 0 ≤ qn st' - qn st; have := hmr.1; have := hm.1; have := hmc.1; omega, by show qs gs - qs st + 0 ≤ qs st' - qs st; have := hmr.2.1; have := hm.2.1; have := hmc.2.1; omega⟩) (fun H locs hp => ?_)
      have hk_6 : qk st_7 h0 = 9 := by rw [(mo_X6_refuse h0 3 l3 _ _ _ hc_8).2.2.1]; exact hk_6
      refine W.widen (k := qn st_7 - qn st) (n := qs st_7 - qs st) (by have := hmc.1; omega) (by have := hmc.2.1; omega) ?_
      have hm := hm.tr hmc
      exact J92 (r_9, st_7) _ _ _ ⟨hf, hp, (lv_sub hl [] rfl), hm⟩
  refine W_blkA (fun (u : Int32 × CS) H locs ls => match u with | (s0, gs) => fX6_takeName_76 h0 s0 gs = some (r, st') ∧ Cp (dC, dI) ka ad ct A s.heap gs H locs ∧ lv_has ls 5 [] ∧ Mo st gs) (fun (u : Int32 × CS) ls => match u with | (s0, gs) => F0 m 76 ls [.int s0]) (fun (u : Int32 × CS) => match u with | (s0, gs) => qn gs - qn st) (fun (u : Int32 × CS) => match u with | (s0, gs) => qs gs - qs st) ?_ (fun J76 => ?_)
  · intro u H locs ls hu
    obtain ⟨s0, gs⟩ := u
    obtain ⟨hf, hp, hl, hm⟩ := hu
    show W p l e _ s m _ below meth c _ _ (qn gs - qn st) (qs gs - qs st) _ (F0 m 76 ls [.int s0])
    unfold fX6_takeName_76 at hf
    obtain ⟨hz, hf⟩ := gd_some hf
    obtain ⟨e1, e2⟩ := pr_some hf
    refine W.widen (k := qn st' - qn st) (n := qs st' - qs st) (by rw [e2]; exact Nat.le_refl _) (by rw [e2]; exact Nat.le_refl _) ?_
    exact W.zret (v := s0) hx hb hr hz (fun t ht hW => ⟨⟨s0, (), rfl, e1, Cp.end e2 hp ht⟩, hp.2.1.F ht⟩) hp.2.1.2.2 dX6_takeName_76
  refine W_blkA (fun (u : (Option Nat) × (Option Nat) × Int32 × (Option Nat) × Int32 × CS) H locs ls => match u with | (l1, l2, l3, l4, s0, gs) => fX6_takeName_67 h0 l1 l2 l3 l4 s0 gs = some (r, st') ∧ Cp (dC, dI) ka ad ct A s.heap gs H locs ∧ lv_has ls 5 [(0, .ref (ad h0)), (1, va_rf (Option.map ad l1)), (2, va_rf (Option.map ad l2)), (3, .int l3), (4, va_rf (Option.map ad l4))] ∧ Mo st gs) (fun (u : (Option Nat) × (Option Nat) × Int32 × (Option Nat) × Int32 × CS) ls => match u with | (l1, l2, l3, l4, s0, gs) => F0 m 67 ls [.int s0]) (fun (u : (Option Nat) × (Option Nat) × Int32 × (Option Nat) × Int32 × CS) => match u with | (l1, l2, l3, l4, s0, gs) => qn gs - qn st) (fun (u : (Option Nat) × (Option Nat) × Int32 × (Option Nat) × Int32 × CS) => match u with | (l1, l2, l3, l4, s0, gs) => qs gs - qs st) ?_ (fun J67 => ?_)
  · intro u H locs ls hu
    obtain ⟨l1, l2, l3, l4, s0, gs⟩ := u
    obtain ⟨hf, hp, hl, hm⟩ := hu
    show W p l e _ s m _ below meth c _ _ (qn gs - qn st) (qs gs - qs st) _ (F0 m 67 ls [.int s0])
    unfold fX6_takeName_67 at hf
    refine lv_if_eq (tgt := 77) hx hb dX6_takeName_67 (by decide) (fun c_10 => ?_) (fun c_10 => ?_)
    · have hf := pif_t c_10 hf
      refine o_aload_n hx hb dX6_takeName_77 rfl (lv_at hl 2 rfl) ?_
      refine o_aload hx hb dX6_takeName_78 (lv_at hl 4 rfl) ?_
      obtain ⟨a_11, ha_12, hf⟩ := ono_some hf
      refine o_at1 ha_12 ?_
      obtain ⟨hk_13, hf⟩ := gd_some hf
      obtain ⟨r_16, st_14, hc_15, hf⟩ := bnd_some hf
      have hmc := (mo_X1_hasName a_11 l4 _ _ _ hc_15).mo
      have hmr := mo_X6_takeName_83 h0 _ _ _ _ _ _ _ hf
      refine q_ci hp hA (va_runV (As := [va_rf (Option.map ad l4)]) (rest := []) ⟨hx, hb, hml, hown, hts⟩ (c_X1_hasName l dC dI ka ad ct a_11 l4 _ _ _ hc_15 _) (cwV 1 hts gq_X6_takeName_X1_hasName_128 rfl rfl rfl (by decide +kernel) ⟨Nat.le_of_ble_eq_true rfl, Nat.le_of_ble_eq_true rfl⟩) ⟨PrC.blind _, q_rv3 hK hp hC hk_13, q_pre hp hK hN hZ hC hR hL hA⟩ rfl rfl hl.1 rfl (lv_room (Nat.le_of_ble_eq_true rfl)) dX6_takeName_80 ⟨by show qn gs - qn st + 0 ≤ qn st' - qn st; have := hmr.1; have := hm.1; have := hmc.1; omega, by show qs gs - qs st + 0 ≤ qs st' - qs st; have := hmr.2.1; have := hm.2.1; have := hmc.2.1; omega⟩) (fun H locs hp => ?_)
      have hk_13 : qk st_14 a_11 = 4 := by rw [(mo_X1_hasName a_11 l4 _ _ _ hc_15).2.2.1]; exact hk_13
      refine W.widen (k := qn st_14 - qn st) (n := qs st_14 - qs st) (by have := hmc.1; omega) (by have := hmc.2.1; omega) ?_
      have hm := hm.tr hmc
      exact J83 (l1, l3, l4, r_16, st_14) _ _ _ ⟨hf, hp, (lv_sub hl [0, 1, 3, 4] rfl), hm⟩
    · have hf := pif_f c_10 hf
      refine lv_aload_n hx hb dX6_takeName_70 rfl (lv_at hl 0 rfl) ?_
      refine lv_iconst (v := 1) hx hb dX6_takeName_71 (by decide) ?_
      refine lv_iload_n hx hb dX6_takeName_72 rfl (lv_at hl 3 rfl) ?_
      obtain ⟨hk_17, hf⟩ := gd_some hf
      obtain ⟨r_20, st_18, hc_19, hf⟩ := bnd_some hf
      have hmc := (mo_X6_refuse h0 1 l3 _ _ _ hc_19).mo
      have hmr := mo_X6_takeName_76 h0 _ _ _ _ hf
      refine q_ci hp hA (va_runV (As := [.int 1, .int l3]) (rest := []) ⟨hx, hb, hml, hown, hts⟩ (c_X6_refuse l dC dI ka ad ct h0 1 l3 _ _ _ hc_19 _) (cwV 2 hts gq_X6_takeName_X6_refuse_48 rfl rfl rfl (by decide +kernel) ⟨Nat.le_of_ble_eq_true rfl, Nat.le_of_ble_eq_true rfl⟩) ⟨PrC.blind _, q_rv8 hK hp hC hk_17, q_pre hp hK hN hZ hC hR hL hA⟩ rfl rfl hl.1 rfl (lv_room (Nat.le_of_ble_eq_true rfl)) dX6_takeName_73 ⟨by show qn gs - qn st + 0 ≤ qn st' - qn st; have := hmr.1; have := hm.1; have := hmc.1; omega, by show qs gs - qs st + 0 ≤ qs st' - qs st; have := hmr.2.1; have := hm.2.1; have := hmc.2.1; omega⟩) (fun H locs hp => ?_)
      have hk_17 : qk st_18 h0 = 9 := by rw [(mo_X6_refuse h0 1 l3 _ _ _ hc_19).2.2.1]; exact hk_17
      refine W.widen (k := qn st_18 - qn st) (n := qs st_18 - qs st) (by have := hmc.1; omega) (by have := hmc.2.1; omega) ?_
      have hm := hm.tr hmc
      exact J76 (r_20, st_18) _ _ _ ⟨hf, hp, (lv_sub hl [] rfl), hm⟩
  refine W_blkA (fun (u : (Option Nat) × (Option Nat) × Int32 × (Option Nat) × Int32 × CS) H locs ls => match u with | (l1, l2, l3, l4, s0, gs) => fX6_takeName_57 h0 l1 l2 l3 l4 s0 gs = some (r, st') ∧ Cp (dC, dI) ka ad ct A s.heap gs H locs ∧ lv_has ls 5 [(0, .ref (ad h0)), (1, va_rf (Option.map ad l1)), (2, va_rf (Option.map ad l2)), (3, .int l3), (4, va_rf (Option.map ad l4))] ∧ Mo st gs) (fun (u : (Option Nat) × (Option Nat) × Int32 × (Option Nat) × Int32 × CS) ls => match u with | (l1, l2, l3, l4, s0, gs) => F0 m 57 ls [.int s0]) (fun (u : (Option Nat) × (Option Nat) × Int32 × (Option Nat) × Int32 × CS) => match u with | (l1, l2, l3, l4, s0, gs) => qn gs - qn st) (fun (u : (Option Nat) × (Option Nat) × Int32 × (Option Nat) × Int32 × CS) => match u with | (l1, l2, l3, l4, s0, gs) => qs gs - qs st) ?_ (fun J57 => ?_)
  · intro u H locs ls hu
    obtain ⟨l1, l2, l3, l4, s0, gs⟩ := u
    obtain ⟨hf, hp, hl, hm⟩ := hu
    show W p l e _ s m _ below meth c _ _ (qn gs - qn st) (qs gs - qs st) _ (F0 m 57 ls [.int s0])
    unfold fX6_takeName_57 at hf
    refine lv_if_eq (tgt := 62) hx hb dX6_takeName_57 (by decide) (fun c_21 => ?_) (fun c_21 => ?_)
    · have hf := pif_t c_21 hf
      refine o_aload hx hb dX6_takeName_62 (lv_at hl 4 rfl) ?_
      obtain ⟨r_24, st_22, hc_23, hf⟩ := bnd_some hf
      have hmc := (mo_X6_kindOf l4 _ _ _ hc_23).mo
      have hmr := mo_X6_takeName_67 h0 _ _ _ _ _ _ _ _ hf
      refine q_ci hp hA (va_runS (As := [va_rf (Option.map ad l4)]) (rest := []) ⟨hx, hb, hml, hown, hts⟩ (c_X6_kindOf l dC dI ka ad ct l4 _ _ _ hc_23 _) (va_cwS 1 hts gq_X6_takeName_X6_kindOf_124 rfl rfl rfl (by decide +kernel) ⟨Nat.le_of_ble_eq_true rfl, Nat.le_of_ble_eq_true rfl⟩) ⟨PrC.blind _, q_pre hp hK hN hZ hC hR hL hA⟩ rfl rfl hl.1 rfl (lv_room (Nat.le_of_ble_eq_true rfl)) dX6_takeName_64 ⟨by show qn gs - qn st + 0 ≤ qn st' - qn st; have := hmr.1; have := hm.1; have := hmc.1; omega, by show qs gs - qs st + 0 ≤ qs st' - qs st; have := hmr.2.1; have := hm.2.1; have := hmc.2.1; omega⟩) (fun H locs hp => ?_)
      refine W.widen (k := qn st_22 - qn st) (n := qs st_22 - qs st) (by have := hmc.1; omega) (by have := hmc.2.1; omega) ?_
      have hm := hm.tr hmc
      exact J67 (l1, l2, l3, l4, r_24, st_22) _ _ _ ⟨hf, hp, (lv_sub hl [0, 1, 2, 3, 4] rfl), hm⟩
    · have hf := pif_f c_21 hf
      refine lv_iconst (v := 1) hx hb dX6_takeName_60 (by decide) ?_
      obtain ⟨e1, e2⟩ := pr_some hf
      refine W.widen (k := qn st' - qn st) (n := qs st' - qs st) (by rw [e2]; exact Nat.le_refl _) (by rw [e2]; exact Nat.le_refl _) ?_
      exact W.zret (v := 1) hx hb hr rfl (fun t ht hW => ⟨⟨1, (), rfl, e1, Cp.end e2 hp ht⟩, hp.2.1.F ht⟩) hp.2.1.2.2 dX6_takeName_61
  refine W_blkA (fun (u : Int32 × CS) H locs ls => match u with | (s0, gs) => fX6_takeName_49 h0 s0 gs = some (r, st') ∧ Cp (dC, dI) ka ad ct A s.heap gs H locs ∧ lv_has ls 5 [] ∧ Mo st gs) (fun (u : Int32 × CS) ls => match u with | (s0, gs) => F0 m 49 ls [.int s0]) (fun (u : Int32 × CS) => match u with | (s0, gs) => qn gs - qn st) (fun (u : Int32 × CS) => match u with | (s0, gs) => qs gs - qs st) ?_ (fun J49 => ?_)
  · intro u H locs ls hu
    obtain ⟨s0, gs⟩ := u
    obtain ⟨hf, hp, hl, hm⟩ := hu
    show W p l e _ s m _ below meth c _ _ (qn gs - qn st) (qs gs - qs st) _ (F0 m 49 ls [.int s0])
    unfold fX6_takeName_49 at hf
    obtain ⟨hz, hf⟩ := gd_some hf
    obtain ⟨e1, e2⟩ := pr_some hf
    refine W.widen (k := qn st' - qn st) (n := qs st' - qs st) (by rw [e2]; exact Nat.le_refl _) (by rw [e2]; exact Nat.le_refl _) ?_
    exact W.zret (v := s0) hx hb hr hz (fun t ht hW => ⟨⟨s0, (), rfl, e1, Cp.end e2 hp ht⟩, hp.2.1.F ht⟩) hp.2.1.2.2 dX6_takeName_49
  refine W_blkA (fun (u : (Option Nat) × (Option Nat) × Int32 × (Option Nat) × Int32 × CS) H locs ls => match u with | (l1, l2, l3, l4, s0, gs) => fX6_takeName_35 h0 l1 l2 l3 l4 s0 gs = some (r, st') ∧ Cp (dC, dI) ka ad ct A s.heap gs H locs ∧ lv_has ls 5 [(0, .ref (ad h0)), (1, va_rf (Option.map ad l1)), (2, va_rf (Option.map ad l2)), (3, .int l3), (4, va_rf (Option.map ad l4))] ∧ Mo st gs) (fun (u : (Option Nat) × (Option Nat) × Int32 × (Option Nat) × Int32 × CS) ls => match u with | (l1, l2, l3, l4, s0, gs) => F0 m 35 ls [.int s0]) (fun (u : (Option Nat) × (Option Nat) × Int32 × (Option Nat) × Int32 × CS) => match u with | (l1, l2, l3, l4, s0, gs) => qn gs - qn st) (fun (u : (Option Nat) × (Option Nat) × Int32 × (Option Nat) × Int32 × CS) => match u with | (l1, l2, l3, l4, s0, gs) => qs gs - qs st) ?_ (fun J35 => ?_)
  · intro u H locs ls hu
    obtain ⟨l1, l2, l3, l4, s0, gs⟩ := u
    obtain ⟨hf, hp, hl, hm⟩ := hu
    show W p l e _ s m _ below meth c _ _ (qn gs - qn st) (qs gs - qs st) _ (F0 m 35 ls [.int s0])
    unfold fX6_takeName_35 at hf
    refine lv_bipush (v := 8) hx hb dX6_takeName_35 (by decide) ?_
    refine lv_icmp_le (tgt := 50) hx hb dX6_takeName_37 (by decide) (fun c_25 => ?_) (fun c_25 => ?_)
    · have hf := pif_t c_25 hf
      refine o_aload hx hb dX6_takeName_50 (lv_at hl 4 rfl) ?_
      refine q_ldc (i := 1) hx hb hown (hR (RX6, 118, "gone", 1) (by decide +kernel)) hp (by decide) dX6_takeName_52 ?_
      obtain ⟨a_26, ha_27, hf⟩ := ono_some hf
      refine o_at1 ha_27 ?_
      obtain ⟨hk_28, hf⟩ := gd_some hf
      obtain ⟨r_31, st_29, hc_30, hf⟩ := bnd_some hf
      have hmc := (mo_J0_equals_9ea2d a_26 (some 1) _ _ _ hc_30).mo
      have hmr := mo_X6_takeName_57 h0 _ _ _ _ _ _ _ _ hf
      refine q_ci hp hA (va_runV (As := [.ref (ad 1)]) (rest := []) ⟨hx, hb, hml, hown, hts⟩ (c_J0_equals_9ea2d l dC dI ka ad ct a_26 (some 1) _ _ _ hc_30 _) (cwV 1 hts gq_X6_takeName_J0_equals_9ea2d_120 rfl rfl rfl (by decide +kernel) ⟨Nat.le_of_ble_eq_true rfl, Nat.le_of_ble_eq_true rfl⟩) ⟨PrC.blind _, q_recv (ci := 0) hK hp hC hk_28 (by decide) rfl (fun _ => rfl), q_pre hp hK hN hZ hC hR hL hA⟩ rfl rfl hl.1 rfl (lv_room (Nat.le_of_ble_eq_true rfl)) dX6_takeName_54 ⟨by show qn gs - qn st + 0 ≤ qn st' - qn st; have := hmr.1; have := hm.1; have := hmc.1; omega, by show qs gs - qs st + 0 ≤ qs st' - qs st; have := hmr.2.1; have := hm.2.1; have := hmc.2.1; omega⟩) (fun H locs hp => ?_)
      have hk_28 : qk st_29 a_26 = 1 := by rw [(mo_J0_equals_9ea2d a_26 (some 1) _ _ _ hc_30).2.2.1]; exact hk_28
      refine W.widen (k := qn st_29 - qn st) (n := qs st_29 - qs st) (by have := hmc.1; omega) (by have := hmc.2.1; omega) ?_
      have hm := hm.tr hmc
      exact J57 (l1, l2, l3, l4, r_31, st_29) _ _ _ ⟨hf, hp, (lv_sub hl [0, 1, 2, 3, 4] rfl), hm⟩
    · have hf := pif_f c_25 hf
      refine lv_aload_n hx hb dX6_takeName_40 rfl (lv_at hl 0 rfl) ?_
      refine lv_iconst (v := 1) hx hb dX6_takeName_41 (by decide) ?_
      refine lv_iload_n hx hb dX6_takeName_42 rfl (lv_at hl 3 rfl) ?_
      refine lv_bipush (v := 8) hx hb dX6_takeName_43 (by decide) ?_
      refine lv_iadd hx hb dX6_takeName_45 ?_
      obtain ⟨hk_32, hf⟩ := gd_some hf
      obtain ⟨r_35, st_33, hc_34, hf⟩ := bnd_some hf
      have hmc := (mo_X6_refuse h0 1 (l3 + 8) _ _ _ hc_34).mo
      have hmr := mo_X6_takeName_49 h0 _ _ _ _ hf
      refine q_ci hp hA (va_runV (As := [.int 1, .int (l3 + 8)]) (rest := []) ⟨hx, hb, hml, hown, hts⟩ (c_X6_refuse l dC dI ka ad ct h0 1 (l3 + 8) _ _ _ hc_34 _) (cwV 2 hts gq_X6_takeName_X6_refuse_48 rfl rfl rfl (by decide +kernel) ⟨Nat.le_of_ble_eq_true rfl, Nat.le_of_ble_eq_true rfl⟩) ⟨PrC.blind _, q_rv8 hK hp hC hk_32, q_pre hp hK hN hZ hC hR hL hA⟩ rfl rfl hl.1 rfl (lv_room (Nat.le_of_ble_eq_true rfl)) dX6_takeName_46 ⟨by show qn gs - qn st + 0 ≤ qn st' - qn st; have := hmr.1; have := hm.1; have := hmc.1; omega, by show qs gs - qs st + 0 ≤ qs st' - qs st; have := hmr.2.1; have := hm.2.1; have := hmc.2.1; omega⟩) (fun H locs hp => ?_)
      have hk_32 : qk st_33 h0 = 9 := by rw [(mo_X6_refuse h0 1 (l3 + 8) _ _ _ hc_34).2.2.1]; exact hk_32
      refine W.widen (k := qn st_33 - qn st) (n := qs st_33 - qs st) (by have := hmc.1; omega) (by have := hmc.2.1; omega) ?_
      have hm := hm.tr hmc
      exact J49 (r_35, st_33) _ _ _ ⟨hf, hp, (lv_sub hl [] rfl), hm⟩
  refine W_blkA (fun (u : Int32 × CS) H locs ls => match u with | (s0, gs) => fX6_takeName_29 h0 s0 gs = some (r, st') ∧ Cp (dC, dI) ka ad ct A s.heap gs H locs ∧ lv_has ls 5 [] ∧ Mo st gs) (fun (u : Int32 × CS) ls => match u with | (s0, gs) => F0 m 29 ls [.int s0]) (fun (u : Int32 × CS) => match u with | (s0, gs) => qn gs - qn st) (fun (u : Int32 × CS) => match u with | (s0, gs) => qs gs - qs st) ?_ (fun J29 => ?_)
  · intro u H locs ls hu
    obtain ⟨s0, gs⟩ := u
    obtain ⟨hf, hp, hl, hm⟩ := hu
    show W p l e _ s m _ below meth c _ _ (qn gs - qn st) (qs gs - qs st) _ (F0 m 29 ls [.int s0])
    unfold fX6_takeName_29 at hf
    obtain ⟨hz, hf⟩ := gd_some hf
    obtain ⟨e1, e2⟩ := pr_some hf
    refine W.widen (k := qn st' - qn st) (n := qs st' - qs st) (by rw [e2]; exact Nat.le_refl _) (by rw [e2]; exact Nat.le_refl _) ?_
    exact W.zret (v := s0) hx hb hr hz (fun t ht hW => ⟨⟨s0, (), rfl, e1, Cp.end e2 hp ht⟩, hp.2.1.F ht⟩) hp.2.1.2.2 dX6_takeName_29
  refine W_blkA (fun (u : (Option Nat) × (Option Nat) × Int32 × (Option Nat) × Int32 × CS) H locs ls => match u with | (l1, l2, l3, l4, s0, gs) => fX6_takeName_20 h0 l1 l2 l3 l4 s0 gs = some (r, st') ∧ Cp (dC, dI) ka ad ct A s.heap gs H locs ∧ lv_has ls 5 [(0, .ref (ad h0)), (1, va_rf (Option.map ad l1)), (2, va_rf (Option.map ad l2)), (3, .int l3), (4, va_rf (Option.map ad l4))] ∧ Mo st gs) (fun (u : (Option Nat) × (Option Nat) × Int32 × (Option Nat) × Int32 × CS) ls => match u with | (l1, l2, l3, l4, s0, gs) => F0 m 20 ls [.int s0]) (fun (u : (Option Nat) × (Option Nat) × Int32 × (Option Nat) × Int32 × CS) => match u with | (l1, l2, l3, l4, s0, gs) => qn gs - qn st) (fun (u : (Option Nat) × (Option Nat) × Int32 × (Option Nat) × Int32 × CS) => match u with | (l1, l2, l3, l4, s0, gs) => qs gs - qs st) ?_ (fun J20 => ?_)
  · intro u H locs ls hu
    obtain ⟨l1, l2, l3, l4, s0, gs⟩ := u
    obtain ⟨hf, hp, hl, hm⟩ := hu
    show W p l e _ s m _ below meth c _ _ (qn gs - qn st) (qs gs - qs st) _ (F0 m 20 ls [.int s0])
    unfold fX6_takeName_20 at hf
    refine lv_if_eq (tgt := 30) hx hb dX6_takeName_20 (by decide) (fun c_36 => ?_) (fun c_36 => ?_)
    · have hf := pif_t c_36 hf
      refine o_aload hx hb dX6_takeName_30 (lv_at hl 4 rfl) ?_
      obtain ⟨a_37, ha_38, hf⟩ := ono_some hf
      refine o_at ha_38 ?_
      obtain ⟨hk_39, hf⟩ := gd_some hf
      obtain ⟨r_42, st_40, hc_41, hf⟩ := bnd_some hf
      have hmc := (mo_J0_length_8abf5 a_37 _ _ _ hc_41).mo
      have hmr := mo_X6_takeName_35 h0 _ _ _ _ _ _ _ _ hf
      refine q_ci hp hA (va_runV (As := []) (rest := []) ⟨hx, hb, hml, hown, hts⟩ (c_J0_length_8abf5 l dC dI ka ad ct a_37 _ _ _ hc_41 _) (cwV 0 hts gq_X6_takeName_J0_length_8abf5_115 rfl rfl rfl (by decide +kernel) ⟨Nat.le_of_ble_eq_true rfl, Nat.le_of_ble_eq_true rfl⟩) ⟨PrC.blind _, q_recv (ci := 0) hK hp hC hk_39 (by decide) rfl (fun _ => rfl), q_pre hp hK hN hZ hC hR hL hA⟩ rfl rfl hl.1 rfl (lv_room (Nat.le_of_ble_eq_true rfl)) dX6_takeName_32 ⟨by show qn gs - qn st + 0 ≤ qn st' - qn st; have := hmr.1; have := hm.1; have := hmc.1; omega, by show qs gs - qs st + 0 ≤ qs st' - qs st; have := hmr.2.1; have := hm.2.1; have := hmc.2.1; omega⟩) (fun H locs hp => ?_)
      have hk_39 : qk st_40 a_37 = 1 := by rw [(mo_J0_length_8abf5 a_37 _ _ _ hc_41).2.2.1]; exact hk_39
      refine W.widen (k := qn st_40 - qn st) (n := qs st_40 - qs st) (by have := hmc.1; omega) (by have := hmc.2.1; omega) ?_
      have hm := hm.tr hmc
      exact J35 (l1, l2, l3, l4, r_42, st_40) _ _ _ ⟨hf, hp, (lv_sub hl [0, 1, 2, 3, 4] rfl), hm⟩
    · have hf := pif_f c_36 hf
      refine lv_aload_n hx hb dX6_takeName_23 rfl (lv_at hl 0 rfl) ?_
      refine lv_iconst (v := 1) hx hb dX6_takeName_24 (by decide) ?_
      refine lv_iload_n hx hb dX6_takeName_25 rfl (lv_at hl 3 rfl) ?_
      obtain ⟨hk_43, hf⟩ := gd_some hf
      obtain ⟨r_46, st_44, hc_45, hf⟩ := bnd_some hf
      have hmc := (mo_X6_refuse h0 1 l3 _ _ _ hc_45).mo
      have hmr := mo_X6_takeName_29 h0 _ _ _ _ hf
      refine q_ci hp hA (va_runV (As := [.int 1, .int l3]) (rest := []) ⟨hx, hb, hml, hown, hts⟩ (c_X6_refuse l dC dI ka ad ct h0 1 l3 _ _ _ hc_45 _) (cwV 2 hts gq_X6_takeName_X6_refuse_48 rfl rfl rfl (by decide +kernel) ⟨Nat.le_of_ble_eq_true rfl, Nat.le_of_ble_eq_true rfl⟩) ⟨PrC.blind _, q_rv8 hK hp hC hk_43, q_pre hp hK hN hZ hC hR hL hA⟩ rfl rfl hl.1 rfl (lv_room (Nat.le_of_ble_eq_true rfl)) dX6_takeName_26 ⟨by show qn gs - qn st + 0 ≤ qn st' - qn st; have := hmr.1; have := hm.1; have := hmc.1; omega, by show qs gs - qs st + 0 ≤ qs st' - qs st; have := hmr.2.1; have := hm.2.1; have := hmc.2.1; omega⟩) (fun H locs hp => ?_)
      have hk_43 : qk st_44 h0 = 9 := by rw [(mo_X6_refuse h0 1 l3 _ _ _ hc_45).2.2.1]; exact hk_43
      refine W.widen (k := qn st_44 - qn st) (n := qs st_44 - qs st) (by have := hmc.1; omega) (by have := hmc.2.1; omega) ?_
      have hm := hm.tr hmc
      exact J29 (r_46, st_44) _ _ _ ⟨hf, hp, (lv_sub hl [] rfl), hm⟩
  refine W_blkA (fun (u : (Option Nat) × (Option Nat) × Int32 × (Option Nat) × CS) H locs ls => match u with | (l1, l2, l3, s0, gs) => fX6_takeName_13 h0 l1 l2 l3 s0 gs = some (r, st') ∧ Cp (dC, dI) ka ad ct A s.heap gs H locs ∧ lv_has ls 5 [(0, .ref (ad h0)), (1, va_rf (Option.map ad l1)), (2, va_rf (Option.map ad l2)), (3, .int l3)] ∧ Mo st gs) (fun (u : (Option Nat) × (Option Nat) × Int32 × (Option Nat) × CS) ls => match u with | (l1, l2, l3, s0, gs) => F0 m 13 ls [va_rf (Option.map ad s0)]) (fun (u : (Option Nat) × (Option Nat) × Int32 × (Option Nat) × CS) => match u with | (l1, l2, l3, s0, gs) => qn gs - qn st) (fun (u : (Option Nat) × (Option Nat) × Int32 × (Option Nat) × CS) => match u with | (l1, l2, l3, s0, gs) => qs gs - qs st) ?_ (fun J13 => ?_)
  · intro u H locs ls hu
    obtain ⟨l1, l2, l3, s0, gs⟩ := u
    obtain ⟨hf, hp, hl, hm⟩ := hu
    show W p l e _ s m _ below meth c _ _ (qn gs - qn st) (qs gs - qs st) _ (F0 m 13 ls [va_rf (Option.map ad s0)])
    unfold fX6_takeName_13 at hf
    refine o_astore (i := 4) (lv' := [(4, va_rf (Option.map ad s0)), (0, .ref (ad h0)), (1, va_rf (Option.map ad l1)), (2, va_rf (Option.map ad l2)), (3, .int l3)]) hx hb dX6_takeName_13 hl (by decide) rfl (fun ls hl => ?_)
    refine o_aload hx hb dX6_takeName_15 (lv_at hl 0 rfl) ?_
    obtain ⟨a_47, ha_48, hf⟩ := ono_some hf
    refine o_at ha_48 ?_
    obtain ⟨hk_49, hf⟩ := gd_some hf
    obtain ⟨r_52, st_50, hc_51, hf⟩ := bnd_some hf
    have hmc := (mo_J0_isEmpty_aae02 a_47 _ _ _ hc_51).mo
    have hmr := mo_X6_takeName_20 h0 _ _ _ _ _ _ _ _ hf
    refine q_ci hp hA (va_runV (As := []) (rest := []) ⟨hx, hb, hml, hown, hts⟩ (c_J0_isEmpty_aae02 l dC dI ka ad ct a_47 _ _ _ hc_51 _) (cwV 0 hts gq_X6_takeName_J0_isEmpty_aae02_70 rfl rfl rfl (by decide +kernel) ⟨Nat.le_of_ble_eq_true rfl, Nat.le_of_ble_eq_true rfl⟩) ⟨PrC.blind _, q_recv (ci := 0) hK hp hC hk_49 (by decide) rfl (fun _ => rfl), q_pre hp hK hN hZ hC hR hL hA⟩ rfl rfl hl.1 rfl (lv_room (Nat.le_of_ble_eq_true rfl)) dX6_takeName_17 ⟨by show qn gs - qn st + 0 ≤ qn st' - qn st; have := hmr.1; have := hm.1; have := hmc.1; omega, by show qs gs - qs st + 0 ≤ qs st' - qs st; have := hmr.2.1; have := hm.2.1; have := hmc.2.1; omega⟩) (fun H locs hp => ?_)
    have hk_49 : qk st_50 a_47 = 1 := by rw [(mo_J0_isEmpty_aae02 a_47 _ _ _ hc_51).2.2.1]; exact hk_49
    refine W.widen (k := qn st_50 - qn st) (n := qs st_50 - qs st) (by have := hmc.1; omega) (by have := hmc.2.1; omega) ?_
    have hm := hm.tr hmc
    exact J20 (l1, l2, l3, s0, r_52, st_50) _ _ _ ⟨hf, hp, (lv_sub hl [1, 2, 3, 4, 0] rfl), hm⟩
  refine W_blkA (fun (u : (Option Nat) × (Option Nat) × CS) H locs ls => match u with | (l1, l2, gs) => fX6_takeName_4 h0 l1 l2 gs = some (r, st') ∧ Cp (dC, dI) ka ad ct A s.heap gs H locs ∧ lv_has ls 5 [(0, .ref (ad h0)), (1, va_rf (Option.map ad l1)), (2, va_rf (Option.map ad l2))] ∧ Mo st gs) (fun (u : (Option Nat) × (Option Nat) × CS) ls => match u with | (l1, l2, gs) => F0 m 4 ls []) (fun (u : (Option Nat) × (Option Nat) × CS) => match u with | (l1, l2, gs) => qn gs - qn st) (fun (u : (Option Nat) × (Option Nat) × CS) => match u with | (l1, l2, gs) => qs gs - qs st) ?_ (fun J4 => ?_)
  · intro u H locs ls hu
    obtain ⟨l1, l2, gs⟩ := u
    obtain ⟨hf, hp, hl, hm⟩ := hu
    show W p l e _ s m _ below meth c _ _ (qn gs - qn st) (qs gs - qs st) _ (F0 m 4 ls [])
    unfold fX6_takeName_4 at hf
    refine lv_aload_n hx hb dX6_takeName_4 rfl (lv_at hl 0 rfl) ?_
    obtain ⟨hk_53, hf⟩ := gd_some hf
    refine q_gi (ci := 8) (C := RX6) (T := TX6) (N := 6) (k := 3) hx hb hts iRX6 hown hK hp hk_53 (by decide) rfl rfl (by decide) rfl (Or.inl (hts (.fieldLink RX6 26 "RecordBench$TextReader" "pos" "I") (by decide +kernel))) (fun _ h9 => h9) dX6_takeName_5 ?_
    obtain ⟨v_54, ev_54, hf⟩ := nam_some hf
    refine W_toi (y := v_54) ev_54.symm ?_
    refine lv_istore_n (i := 3) (lv' := [(3, .int v_54), (0, .ref (ad h0)), (1, va_rf (Option.map ad l1)), (2, va_rf (Option.map ad l2))]) hx hb dX6_takeName_8 rfl hl (by decide) (by simp [rf_cat, vc_i, vc_l, vc_r, vc_n]) (fun ls hl => ?_)
    refine lv_aload_n hx hb dX6_takeName_9 rfl (lv_at hl 1 rfl) ?_
    obtain ⟨r_57, st_55, hc_56, hf⟩ := bnd_some hf
    have lthk_53 := hp.2.2.1.lt (i := h0) (by rw [hk_53]; decide)
    have hmc := (mo_X6_takeWord h0 _ _ _ hc_56)
    have hmr := mo_X6_takeName_13 h0 _ _ _ _ _ _ _ hf
    refine q_cq hp hA (va_runV (As := []) (rest := []) ⟨hx, hb, hml, hown, hts⟩ (c_X6_takeWord l dC dI ka ad ct h0 _ _ _ hc_56 _) (cwV 0 hts gq_X6_takeName_X6_takeWord_111 rfl rfl rfl (by decide +kernel) ⟨Nat.le_of_ble_eq_true rfl, Nat.le_of_ble_eq_true rfl⟩) ⟨PrC.blind _, q_rv8 hK hp hC hk_53, q_pre hp hK hN hZ hC hR hL hA⟩ rfl rfl hl.1 rfl (lv_room (Nat.le_of_ble_eq_true rfl)) dX6_takeName_10 ⟨by show qn gs - qn st + (qn st_55 - qn gs) ≤ qn st' - qn st; have := hmr.1; have := hm.1; have := hmc.1; omega, by show qs gs - qs st + (qs st_55 - qs gs) ≤ qs st' - qs st; have := hmr.2.1; have := hm.2.1; have := hmc.2.1; omega⟩) (fun H locs hp => ?_)
    have hk_53 : qk st_55 h0 = 9 := ((mo_X6_takeWord h0 _ _ _ hc_56).2.2 _ lthk_53).1.trans hk_53
    refine W.widen (k := qn st_55 - qn st) (n := qs st_55 - qs st) (by have := hm.1; have := hmc.1; omega) (by have := hm.2.1; have := hmc.2.1; omega) ?_
    have hm := hm.tr hmc
    exact J13 (l1, l2, v_54, r_57, st_55) _ _ _ ⟨hf, hp, (lv_sub hl [1, 2, 3, 0] rfl), hm⟩
  unfold fX6_takeName at hf
  refine lv_aload_n hx hb dX6_takeName_0 rfl (lv_at hl 0 rfl) ?_
  obtain ⟨hk_58, hf⟩ := gd_some hf
  obtain ⟨st_59, hc_60, hf⟩ := bnv_some hf
  have hmc := (mo_X6_skipBlanks h0 _ _ hc_60).mo
  have hmr := mo_X6_takeName_4 h0 _ _ _ _ _ hf
  refine q_cv hp hA (va_runV (As := []) (rest := []) ⟨hx, hb, hml, hown, hts⟩ (c_X6_skipBlanks l dC dI ka ad ct h0 _ _ hc_60 _) (cwV 0 hts gq_X6_takeName_X6_skipBlanks_39 rfl rfl rfl (by decide +kernel) ⟨Nat.le_of_ble_eq_true rfl, Nat.le_of_ble_eq_true rfl⟩) ⟨PrC.blind _, q_rv8 hK hp hC hk_58, q_pre hp hK hN hZ hC hR hL hA⟩ rfl rfl hl.1 rfl (lv_room (Nat.le_of_ble_eq_true rfl)) dX6_takeName_1 ⟨by show qn st - qn st + 0 ≤ qn st' - qn st; have := hmr.1; have := hm.1; have := hmc.1; omega, by show qs st - qs st + 0 ≤ qs st' - qs st; have := hmr.2.1; have := hm.2.1; have := hmc.2.1; omega⟩) (fun H locs hp => ?_)
  have hk_58 : qk st_59 h0 = 9 := by rw [(mo_X6_skipBlanks h0 _ _ hc_60).2.2.1]; exact hk_58
  refine W.widen (k := qn st_59 - qn st) (n := qs st_59 - qs st) (by have := hmc.1; omega) (by have := hmc.2.1; omega) ?_
  have hm := hm.tr hmc
  exact J4 (p0, p1, st_59) _ _ _ ⟨hf, hp, (lv_sub hl [0, 1, 2] rfl), hm⟩
noncomputable def fX6_takeKind_49 (h0 : Nat)  (s0 : Int32) (gs : CS) : Option (Int32 × CS) := pif (s0 = 0) (some ((0 : Int32), gs)) (some ((1 : Int32), gs))
set_option maxHeartbeats 1000000 in
theorem mo_X6_takeKind_49 (h0 : Nat)   (s0 : Int32) (gs : CS) (r : Int32) (st' : CS) (hf : fX6_takeKind_49 h0 s0 gs = some (r, st')) : Mo gs st' := by
  unfold fX6_takeKind_49 at hf
  have hm : Mo gs gs := Mo.rf
  rcases pif_or hf with ⟨c_1, hf⟩ | ⟨c_1, hf⟩
  · obtain ⟨e1, e2⟩ := pr_some hf
    exact e2 ▸ hm
  · obtain ⟨e1, e2⟩ := pr_some hf
    exact e2 ▸ hm
noncomputable def fX6_takeKind_33 (h0 : Nat)  (s0 : Int32) (gs : CS) : Option (Int32 × CS) := gd (narrow .boolean (.int s0) = .int s0) (some (s0, gs))
set_option maxHeartbeats 1000000 in
theorem mo_X6_takeKind_33 (h0 : Nat)   (s0 : Int32) (gs : CS) (r : Int32) (st' : CS) (hf : fX6_takeKind_33 h0 s0 gs = some (r, st')) : Mo gs st' := by
  unfold fX6_takeKind_33 at hf
  have hm : Mo gs gs := Mo.rf
  obtain ⟨hz, hf⟩ := gd_some hf
  obtain ⟨e1, e2⟩ := pr_some hf
  exact e2 ▸ hm
noncomputable def fX6_takeKind_17 (h0 : Nat)  (l1 : Option Nat) (l2 : Int32) (l3 : Int32) (s0 : Int32) (s1 : Option Nat) (gs : CS) : Option (Int32 × CS) := ono s1 (fun a_2 => gd (qk gs a_2 = 3) (nam (wI gs a_2 1 s0) (fun st_5 => ono l1 (fun a_6 => gd (qk st_5 a_6 = 3) (pif ((qI st_5 a_6 1) = 0) (gd (qk st_5 h0 = 9) (bnd (fX6_refuse h0 1 l3 st_5) (fun r_18 st_16 => fX6_takeKind_33 h0 r_18 st_16))) (pif ((qI st_5 a_6 1) = 6) (gd (qk st_5 h0 = 9) (bnd (fX6_takeRec h0 l1 l2 st_5) (fun r_14 st_12 => fX6_takeKind_49 h0 r_14 st_12))) (some ((1 : Int32), st_5))))))))
set_option maxHeartbeats 1000000 in
theorem mo_X6_takeKind_17 (h0 : Nat)   (l1 : Option Nat) (l2 : Int32) (l3 : Int32) (s0 : Int32) (s1 : Option Nat) (gs : CS) (r : Int32) (st' : CS) (hf : fX6_takeKind_17 h0 l1 l2 l3 s0 s1 gs = some (r, st')) : Mo gs st' := by
  unfold fX6_takeKind_17 at hf
  have hm : Mo gs gs := Mo.rf
  obtain ⟨a_2, ha_3, hf⟩ := ono_some hf
  obtain ⟨hk_4, hf⟩ := gd_some hf
  obtain ⟨st_5, est_5, hf⟩ := nam_some hf
  have hm := hm.wI est_5
  obtain ⟨a_6, ha_7, hf⟩ := ono_some hf
  obtain ⟨hk_8, hf⟩ := gd_some hf
  rcases pif_or hf with ⟨c_9, hf⟩ | ⟨c_9, hf⟩
  · obtain ⟨hk_15, hf⟩ := gd_some hf
    obtain ⟨r_18, st_16, hc_17, hf⟩ := bnd_some hf
    have hm := hm.ke (mo_X6_refuse h0 1 l3 _ _ _ hc_17)
    exact hm.tr (mo_X6_takeKind_33 h0 r_18 st_16 _ _ hf)
  · rcases pif_or hf with ⟨c_10, hf⟩ | ⟨c_10, hf⟩
    · obtain ⟨hk_11, hf⟩ := gd_some hf
      obtain ⟨r_14, st_12, hc_13, hf⟩ := bnd_some hf
      have hm := hm.ke (mo_X6_takeRec h0 l1 l2 _ _ _ hc_13)
      exact hm.tr (mo_X6_takeKind_49 h0 r_14 st_12 _ _ hf)
    · obtain ⟨e1, e2⟩ := pr_some hf
      exact e2 ▸ hm
noncomputable def fX6_takeKind_14 (h0 : Nat)  (l1 : Option Nat) (l2 : Int32) (l3 : Int32) (s0 : Option Nat) (s1 : Option Nat) (gs : CS) : Option (Int32 × CS) := bnd (fX6_kindOf s0 gs) (fun r_21 st_19 => fX6_takeKind_17 h0 l1 l2 l3 r_21 s1 st_19)
set_option maxHeartbeats 1000000 in
theorem mo_X6_takeKind_14 (h0 : Nat)   (l1 : Option Nat) (l2 : Int32) (l3 : Int32) (s0 : Option Nat) (s1 : Option Nat) (gs : CS) (r : Int32) (st' : CS) (hf : fX6_takeKind_14 h0 l1 l2 l3 s0 s1 gs = some (r, st')) : Mo gs st' := by
  unfold fX6_takeKind_14 at hf
  have hm : Mo gs gs := Mo.rf
  obtain ⟨r_21, st_19, hc_20, hf⟩ := bnd_some hf
  have hm := hm.ke (mo_X6_kindOf s0 _ _ _ hc_20)
  exact hm.tr (mo_X6_takeKind_17 h0 l1 l2 l3 r_21 s1 st_19 _ _ hf)
noncomputable def fX6_takeKind_4 (h0 : Nat)  (l1 : Option Nat) (l2 : Int32) (gs : CS) : Option (Int32 × CS) := gd (qk gs h0 = 9) (nam (qI gs h0 3) (fun v_23 => bnd (fX6_takeWord h0 gs) (fun r_26 st_24 => fX6_takeKind_14 h0 l1 l2 v_23 r_26 l1 st_24)))
set_option maxHeartbeats 1000000 in
theorem mo_X6_takeKind_4 (h0 : Nat)   (l1 : Option Nat) (l2 : Int32) (gs : CS) (r : Int32) (st' : CS) (hf : fX6_takeKind_4 h0 l1 l2 gs = some (r, st')) : Mo gs st' := by
  unfold fX6_takeKind_4 at hf
  have hm : Mo gs gs := Mo.rf
  obtain ⟨hk_22, hf⟩ := gd_some hf
  obtain ⟨v_23, ev_23, hf⟩ := nam_some hf
  obtain ⟨r_26, st_24, hc_25, hf⟩ := bnd_some hf
  have hm := hm.tr (mo_X6_takeWord h0 _ _ _ hc_25)
  exact hm.tr (mo_X6_takeKind_14 h0 l1 l2 v_23 r_26 l1 st_24 _ _ hf)
noncomputable def fX6_takeKind (h0 : Nat) (p0 : Option Nat) (p1 : Int32) (st : CS) : Option (Int32 × CS) := gd (qk st h0 = 9) (bnv (fX6_skipBlanks h0 st) (fun st_28 => fX6_takeKind_4 h0 p0 p1 st_28))
set_option maxHeartbeats 1000000 in
theorem mo_X6_takeKind (h0 : Nat) (p0 : Option Nat) (p1 : Int32) (st : CS) (r : Int32) (st' : CS) (hf : fX6_takeKind h0 p0 p1 st = some (r, st')) : Mo st st' := by
  unfold fX6_takeKind at hf
  have hm : Mo st st := Mo.rf
  obtain ⟨hk_27, hf⟩ := gd_some hf
  obtain ⟨st_28, hc_29, hf⟩ := bnv_some hf
  have hm := hm.ke (mo_X6_skipBlanks h0 _ _ hc_29)
  exact hm.tr (mo_X6_takeKind_4 h0 p0 p1 st_28 _ _ hf)
def wq_X6_takeKind : List Cond := .code yX6_takeKind cX6_takeKind 4 (some .boolean) :: (([.fieldLink RX6 26 "RecordBench$TextReader" "pos" "I", .methodLink RX6 135 yX6_takeRec, .instanceMethod yX6_takeRec, .selects RX6 yX6_takeRec yX6_takeRec, .initialized RX6, .methodLink RX6 48 yX6_refuse, .instanceMethod yX6_refuse, .selects RX6 yX6_refuse yX6_refuse, .methodLink RX6 124 yX6_kindOf, .static yX6_kindOf, .methodLink RX6 111 yX6_takeWord, .instanceMethod yX6_takeWord, .selects RX6 yX6_takeWord yX6_takeWord, .methodLink RX6 39 yX6_skipBlanks, .instanceMethod yX6_skipBlanks, .selects RX6 yX6_skipBlanks yX6_skipBlanks, .code yX6_takeRec cX6_takeRec 4 (some .boolean), .fieldLink RX6 15 "RecordBench$TextReader" "makes" "[LRecordBench$Make;", .methodLink RX6 93 yX6_isDigit, .instanceMethod yX6_isDigit, .selects RX6 yX6_isDigit yX6_isDigit, .methodLink RX6 97 yX6_digitAt, .instanceMethod yX6_digitAt, .selects RX6 yX6_digitAt yX6_digitAt, .static yX8_makeOf, .initialized RX8, .methodLink RX6 108 yX6_isLetter, .instanceMethod yX6_isLetter, .selects RX6 yX6_isLetter yX6_isLetter, .code yX6_refuse cX6_refuse 3 (some .boolean), .fieldLink RX6 30 "RecordBench$TextReader" "fault" "I", .fieldLink RX6 33 "RecordBench$TextReader" "place" "I", .code yX6_isDigit cX6_isDigit 3 (some .boolean), .fieldLink RX6 9 "RecordBench$TextReader" "tape" "LRecordBench$Row;", .methodLink RX6 150 yX5_byteAt, .instanceMethod yX5_byteAt, .selects RX5 yX5_byteAt yX5_byteAt, .initialized RX5, .code yX5_byteAt cX5_byteAt 2 (some .int), .fieldLink RX5 21 "RecordBench$Row" "size" "I", .fieldLink RX5 15 "RecordBench$Row" "bytes" "[I", .code yX6_skipBlanks cX6_skipBlanks 3 none, .methodLink RX6 42 yX5_size, .instanceMethod yX5_size, .selects RX5 yX5_size yX5_size, .methodLink RX6 189 yX6_isBlank, .static yX6_isBlank, .code yX5_size cX5_size 1 (some .int), .code yX6_isBlank cX6_isBlank 1 (some .boolean), .code yX6_digitAt cX6_digitAt 3 (some .int), .code yX8_makeOf cX8_makeOf 2 (some (.object "RecordBench$Make")), .code yX6_isLetter cX6_isLetter 3 (some .boolean), .code yX6_kindOf cX6_kindOf 1 (some .int), .methodLink RX6 120 yJ0_equals_9ea2d, .instanceMethod yJ0_equals_9ea2d, .selects RJ0 yJ0_equals_9ea2d yJ0_equals_9ea2d, .initialized RJ0, .code yJ0_equals_9ea2d cJ0_equals_9ea2d 3 (some .boolean), .classLink RJ0 10 "java/lang/String", .fieldLink RJ0 38 "java/lang/String" "COMPACT_STRINGS" "Z", .fieldLink RJ0 15 "java/lang/String" "coder" "B", .fieldLink RJ0 9 "java/lang/String" "value" "[B", .methodLink RJ0 541 yJ1_equals_b5fdf, .static yJ1_equals_b5fdf, .initialized RJ1, .code yJ1_equals_b5fdf cJ1_equals_b5fdf 3 (some .boolean), .code yX6_takeWord cX6_takeWord 2 (some (.object "java/lang/String")), .fieldLink RX6 22 "RecordBench$TextReader" "letters" "Ljava/lang/StringBuilder;", .methodLink RX6 182 yJ4_toString_0e30d, .instanceMethod yJ4_toString_0e30d, .selects RJ4 yJ4_toString_0e30d yJ4_toString_0e30d, .initialized RJ4, .methodLink RX6 188 yJ4_length_8abf5, .instanceMethod yJ4_length_8abf5, .selects RJ4 yJ4_length_8abf5 yJ4_length_8abf5, .methodLink RX6 178 yJ4_append_cf468, .instanceMethod yJ4_append_cf468, .selects RJ4 yJ4_append_cf468 yJ4_append_cf468, .methodLink RX6 171 yJ4_setLength_d00df, .instanceMethod yJ4_setLength_d00df, .selects RJ4 yJ4_setLength_d00df yJ4_setLength_d00df, .code yJ4_toString_0e30d cJ4_toString_0e30d 1 (some (.object "java/lang/String")), .instanceMethod yJ0_init_81219, .methodLink RJ4 137 yJ0_init_81219, .classLink RJ4 18 RJ0, .instantiable RJ0 4, .code yJ0_init_81219 cJ0_init_81219 2 none, .instanceMethod yJ0_init_db425, .methodLink RJ0 489 yJ0_init_db425, .code yJ0_init_db425 cJ0_init_db425 5 none, .methodLink RJ0 1 objectInit, .instanceMethod objectInit, .code objectInit ⟨#[0xb1]⟩ 1 none, .methodLink RJ0 54 yJ7_copyOfRange_39247, .static yJ7_copyOfRange_39247, .initialized RJ7, .methodLink RJ0 1047 ⟨"java/lang/AbstractStringBuilder", "isLatin1", "()Z"⟩, .sameMethod "java/lang/AbstractStringBuilder" "java/lang/AbstractStringBuilder" "isLatin1" "()Z", .selects RJ4 ⟨"java/lang/AbstractStringBuilder", "isLatin1", "()Z"⟩ yJ5_isLatin1_aae02, .instanceMethod yJ5_isLatin1_aae02, .initialized RJ5, .methodLink RJ0 549 ⟨"java/lang/AbstractStringBuilder", "length", "()I"⟩, .sameMethod "java/lang/AbstractStringBuilder" "java/lang/AbstractStringBuilder" "length" "()I", .instanceMethod yJ5_length_8abf5, .selects RJ4 ⟨"java/lang/AbstractStringBuilder", "length", "()I"⟩ yJ4_length_8abf5, .methodLink RJ0 552 ⟨"java/lang/AbstractStringBuilder", "getValue", "()[B"⟩, .sameMethod "java/lang/AbstractStringBuilder" "java/lang/AbstractStringBuilder" "getValue" "()[B", .selects RJ4 ⟨"java/lang/AbstractStringBuilder", "getValue", "()[B"⟩ yJ5_getValue_6d5f1, .instanceMethod yJ5_getValue_6d5f1, .code yJ7_copyOfRange_39247 cJ7_copyOfRange_39247 3 (some (.array .byte)), .classLink RJ7 311 "[B", .methodLink RJ7 339 yJ7_copyOfRangeByte_39247, .static yJ7_copyOfRangeByte_39247, .methodLink RJ7 310 ⟨"[B", "clone", "()Ljava/lang/Object;"⟩, .sameMethod "[B" "java/lang/Object" "clone" "()Ljava/lang/Object;", .native ⟨"java/lang/Object", "clone", "()Ljava/lang/Object;"⟩, .instanceMethod ⟨"java/lang/Object", "clone", "()Ljava/lang/Object;"⟩, .selects "[B" ⟨"[B", "clone", "()Ljava/lang/Object;"⟩ ⟨"java/lang/Object", "clone", "()Ljava/lang/Object;"⟩, .code yJ7_copyOfRangeByte_39247 cJ7_copyOfRangeByte_39247 5 (some (.array .byte)), .methodLink RJ7 304 Lib.Math.min.name, .static Lib.Math.min.name, .initialized "java/lang/Math", .code Lib.Math.min.name Lib.Math.min.code 2 (some .int), .methodLink RJ7 150 arraycopyName, .native arraycopyName, .static arraycopyName, .initialized "java/lang/System", .arrayClass .byte, .methodLink RJ7 343 yJ7_checkLength_df160, .static yJ7_checkLength_df160, .code yJ7_checkLength_df160 cJ7_checkLength_df160 2 none, .code yJ5_isLatin1_aae02 cJ5_isLatin1_aae02 1 (some .boolean), .fieldLink RJ5 18 "java/lang/String" "COMPACT_STRINGS" "Z", .fieldLink RJ5 22 "java/lang/AbstractStringBuilder" "coder" "B", .code yJ4_length_8abf5 cJ4_length_8abf5 1 (some .int), .methodLink RJ4 343 yJ5_length_8abf5, .superclass RJ4 RJ5, .code yJ5_length_8abf5 cJ5_length_8abf5 1 (some .int), .fieldLink RJ5 79 "java/lang/AbstractStringBuilder" "count" "I", .code yJ5_getValue_6d5f1 cJ5_getValue_6d5f1 1 (some (.array .byte)), .fieldLink RJ5 15 "java/lang/AbstractStringBuilder" "value" "[B", .code yJ4_append_cf468 cJ4_append_cf468 2 (some (.object "java/lang/StringBuilder")), .methodLink RJ4 50 yJ5_append_3fe6f, .sameMethod "java/lang/AbstractStringBuilder" "java/lang/AbstractStringBuilder" "append" "(C)Ljava/lang/AbstractStringBuilder;", .instanceMethod yJ5_append_3fe6f, .code yJ5_append_3fe6f cJ5_append_3fe6f 2 (some (.object "java/lang/AbstractStringBuilder")), .methodLink RJ5 191 yJ1_canEncode_fc78d, .static yJ1_canEncode_fc78d, .methodLink RJ5 83 ⟨"java/lang/AbstractStringBuilder", "isLatin1", "()Z"⟩, .methodLink RJ5 100 ⟨"java/lang/AbstractStringBuilder", "ensureCapacityInternal", "(I)V"⟩, .sameMethod "java/lang/AbstractStringBuilder" "java/lang/AbstractStringBuilder" "ensureCapacityInternal" "(I)V", .selects RJ4 ⟨"java/lang/AbstractStringBuilder", "ensureCapacityInternal", "(I)V"⟩ yJ5_ensureCapacityInternal_d00df, .instanceMethod yJ5_ensureCapacityInternal_d00df, .code yJ1_canEncode_fc78d cJ1_canEncode_fc78d 1 (some .boolean), .code yJ5_ensureCapacityInternal_d00df cJ5_ensureCapacityInternal_d00df 3 none, .methodLink RJ5 108 yJ7_copyOf_9075b, .static yJ7_copyOf_9075b, .methodLink RJ5 104 ⟨"java/lang/AbstractStringBuilder", "newCapacity", "(I)I"⟩, .sameMethod "java/lang/AbstractStringBuilder" "java/lang/AbstractStringBuilder" "newCapacity" "(I)I", .selects RJ4 ⟨"java/lang/AbstractStringBuilder", "newCapacity", "(I)I"⟩ yJ5_newCapacity_0f7a4, .instanceMethod yJ5_newCapacity_0f7a4, .code yJ7_copyOf_9075b cJ7_copyOf_9075b 3 (some (.array .byte)), .code yJ5_newCapacity_0f7a4 cJ5_newCapacity_0f7a4 6 (some .int), .constant RJ5 39 (2147483647), .methodLink RJ5 114 yJ8_newLength_cabcc, .static yJ8_newLength_cabcc, .initialized RJ8, .code yJ8_newLength_cabcc cJ8_newLength_cabcc 4 (some .int), .methodLink RJ8 194 Lib.Math.max.name, .static Lib.Math.max.name, .code Lib.Math.max.name Lib.Math.max.code 2 (some .int), .constant RJ8 200 (2147483639), .code yJ4_setLength_d00df cJ4_setLength_d00df 2 none, .methodLink RJ4 333 yJ5_setLength_d00df, .sameMethod "java/lang/AbstractStringBuilder" "java/lang/AbstractStringBuilder" "setLength" "(I)V", .instanceMethod yJ5_setLength_d00df, .code yJ5_setLength_d00df cJ5_setLength_d00df 2 none, .fieldLink RJ5 73 "java/lang/AbstractStringBuilder" "maybeLatin1" "Z"] : List Cond) ++ wsX60 ++ wsX00 ++ wsX50 ++ wsJ00 ++ wsJ40)
theorem gs_wq_X6_takeKind_wsX60 : GoodIn wq_X6_takeKind wsX60 := fun w h => ⟨List.mem_cons_of_mem _ (List.mem_append_left _ (List.mem_append_left _ (List.mem_append_left _ (List.mem_append_left _ (List.mem_append_right _ h))))), (gt_wsX60 w h).2⟩
theorem gs_wq_X6_takeKind_wsX00 : GoodIn wq_X6_takeKind wsX00 := fun w h => ⟨List.mem_cons_of_mem _ (List.mem_append_left _ (List.mem_append_left _ (List.mem_append_left _ (List.mem_append_right _ h)))), (gt_wsX00 w h).2⟩
theorem gs_wq_X6_takeKind_wsX50 : GoodIn wq_X6_takeKind wsX50 := fun w h => ⟨List.mem_cons_of_mem _ (List.mem_append_left _ (List.mem_append_left _ (List.mem_append_right _ h))), (gt_wsX50 w h).2⟩
set_option maxRecDepth 20000 in
theorem gq_X6_takeKind_X6_takeRec_135 : GoodIn wq_X6_takeKind (wsV RX6 135 RX6 yX6_takeRec wq_X6_takeRec) := goodIn_app (goodIn_r _ [2, 3, 4, 5] rfl rfl) (goodIn_ca (goodIn_ca (goodIn_ca (goodIn_r _ [17, 1, 18, 6, 7, 8, 5, 19, 20, 21, 14, 15, 16, 22, 23, 24, 25, 26, 27, 28, 29, 30, 31, 32, 33, 34, 35, 36, 37, 38, 39, 40, 41, 42, 43, 44, 45, 46, 47, 48, 49, 50, 51, 52] rfl rfl) gs_wq_X6_takeKind_wsX60) gs_wq_X6_takeKind_wsX00) gs_wq_X6_takeKind_wsX50)
set_option maxRecDepth 20000 in
theorem gq_X6_takeKind_X6_refuse_48 : GoodIn wq_X6_takeKind (wsV RX6 48 RX6 yX6_refuse wq_X6_refuse) := goodIn_app (goodIn_r _ [6, 7, 8, 5] rfl rfl) (goodIn_ca (goodIn_r _ [30, 31, 32] rfl rfl) gs_wq_X6_takeKind_wsX60)
theorem gs_wq_X6_takeKind_wsJ00 : GoodIn wq_X6_takeKind wsJ00 := fun w h => ⟨List.mem_cons_of_mem _ (List.mem_append_left _ (List.mem_append_right _ h)), (gt_wsJ00 w h).2⟩
set_option maxRecDepth 20000 in
theorem gq_X6_takeKind_X6_kindOf_124 : GoodIn wq_X6_takeKind (va_wsS RX6 124 yX6_kindOf wq_X6_kindOf) := goodIn_app (goodIn_r _ [9, 10, 5] rfl rfl) (goodIn_ca (goodIn_r _ [53, 54, 55, 56, 57, 58, 59, 60, 61, 62, 63, 64, 65, 66] rfl rfl) gs_wq_X6_takeKind_wsJ00)
theorem gs_wq_X6_takeKind_wsJ40 : GoodIn wq_X6_takeKind wsJ40 := fun w h => ⟨List.mem_cons_of_mem _ (List.mem_append_right _ h), (gt_wsJ40 w h).2⟩
set_option maxRecDepth 20000 in
theorem gq_X6_takeKind_X6_takeWord_111 : GoodIn wq_X6_takeKind (wsV RX6 111 RX6 yX6_takeWord wq_X6_takeWord) := goodIn_app (goodIn_r _ [11, 12, 13, 5] rfl rfl) (goodIn_ca (goodIn_ca (goodIn_ca (goodIn_ca (goodIn_r _ [67, 68, 1, 34, 69, 70, 71, 72, 73, 74, 75, 76, 77, 78, 35, 36, 37, 38, 27, 28, 29, 5, 43, 44, 45, 79, 80, 81, 82, 83, 57, 84, 85, 86, 87, 88, 89, 90, 91, 92, 93, 61, 62, 94, 95, 96, 97, 98, 99, 100, 101, 102, 103, 104, 105, 106, 107, 108, 109, 110, 111, 112, 113, 114, 115, 116, 117, 118, 119, 120, 121, 122, 123, 124, 125, 126, 127, 128, 129, 130, 131, 132, 133, 134, 135, 136, 137, 138, 139, 140, 141, 142, 143, 144, 145, 146, 147, 148, 65, 149, 150, 151, 152, 153, 154, 155, 156, 157, 158, 159, 160, 161, 162, 163, 164, 165, 166, 167, 168, 169, 170, 171, 172, 39, 40, 41, 52, 48, 173, 174, 175, 176, 177, 178] rfl rfl) gs_wq_X6_takeKind_wsX60) gs_wq_X6_takeKind_wsJ00) gs_wq_X6_takeKind_wsJ40) gs_wq_X6_takeKind_wsX50)
set_option maxRecDepth 20000 in
theorem gq_X6_takeKind_X6_skipBlanks_39 : GoodIn wq_X6_takeKind (wsV RX6 39 RX6 yX6_skipBlanks wq_X6_skipBlanks) := goodIn_app (goodIn_r _ [14, 15, 16, 5] rfl rfl) (goodIn_ca (goodIn_ca (goodIn_r _ [42, 1, 34, 43, 44, 45, 38, 35, 36, 37, 46, 47, 5, 48, 40, 39, 41, 49] rfl rfl) gs_wq_X6_takeKind_wsX60) gs_wq_X6_takeKind_wsX50)
set_option maxHeartbeats 4000000 in
set_option maxRecDepth 100000 in
theorem c_X6_takeKind (l : Launch) (dC : Nat → ClassId) (dI : Nat → Nat → Nat) (ka ad : Nat → Nat) (ct : Nat → ClassId) (h0 : Nat) (p0 : Option Nat) (p1 : Int32) (st st' : CS) (r : Int32) (hf : fX6_takeKind h0 p0 p1 st = some (r, st')) (sz : Nat) : Met l yX6_takeKind wq_X6_takeKind ({ frames := 7, cells := (qn st' - qn st), slots := (qs st' - qs st), locals := 201 }) (va_Pc [.ref (ad h0), va_rf (Option.map ad p0), .int p1] (PrC (dC, dI) ct ka ad st sz)) (va_Qi (fun r' (_ : Unit) => r' = r) (fun _ => CB (dC, dI) ct ka ad st' (aC ad st sz)) (aC ad st sz)) (qn st' - qn st) (qs st' - qs st) (aC ad st sz) := by
  refine Met.ofW (cc := cX6_takeKind) (maxL := 4) (ret := (some .boolean)) (by decide) rfl ?_
  intro p e s m args below meth c s₁ B hml hv
  obtain ⟨rfl, hsz, hw0, hK, hN, hZ, hC, hR, hL, hw1, hw2⟩ := hv
  have hx := B.exec
  have hb := B.bytes
  have hr := B.returns
  have hts := atoms_spec (ws := wq_X6_takeKind) B.pre
  have hown : s.vm.findClass RX6 = some m.cls := findClass_of_methodNamed B.named
  have iRX6 : ∀ w ∈ u_ws RX6 TX6 6, w ∈ wq_X6_takeKind := fun w h => List.mem_cons_of_mem _ (List.mem_append_left _ (List.mem_append_left _ (List.mem_append_left _ (List.mem_append_left _ (List.mem_append_right _ h)))))
  have iRX0 : ∀ w ∈ u_ws RX0 TX0 7, w ∈ wq_X6_takeKind := fun w h => List.mem_cons_of_mem _ (List.mem_append_left _ (List.mem_append_left _ (List.mem_append_left _ (List.mem_append_right _ h))))
  subst hsz
  have hp : Cp (dC, dI) ka ad ct (aC ad st s.heap.size) s.heap st s.heap [] := ⟨fun i a b => ⟨hw0 i a b, Or.inl ⟨i, a, b, rfl⟩⟩, va_S.rf, hw1, hw2⟩
  generalize hAe : aC ad st s.heap.size = A at hp hZ hC ⊢
  have hA : ∀ q : Nat, s.heap.size ≤ q → A q := fun q h => by rw [← hAe]; exact Or.inr h
  have hl := lv_entry ([.ref (ad h0), va_rf (Option.map ad p0), .int p1]) (n := 4) (by simp [lg_sl, rf_cat, vc_i, vc_l, vc_r, vc_n])
  rw [lg_entry_eq]
  generalize (lg_sl ([.ref (ad h0), va_rf (Option.map ad p0), .int p1]) ++ List.replicate (4 - (lg_sl ([.ref (ad h0), va_rf (Option.map ad p0), .int p1])).length) Slot.unset).toArray = ls at hl ⊢
  have hl : lv_has ls 4 [(0, .ref (ad h0)), (1, va_rf (Option.map ad p0)), (2, .int p1)] := by simpa [lv_args, rf_cat, vc_i, vc_l, vc_r, vc_n] using hl
  have hm : Mo st st := Mo.rf
  refine W.widen (k := qn st - qn st) (n := qs st - qs st) (Nat.zero_le _) (Nat.zero_le _) ?_
  refine W_blkA (fun (u : Int32 × CS) H locs ls => match u with | (s0, gs) => fX6_takeKind_49 h0 s0 gs = some (r, st') ∧ Cp (dC, dI) ka ad ct A s.heap gs H locs ∧ lv_has ls 4 [] ∧ Mo st gs) (fun (u : Int32 × CS) ls => match u with | (s0, gs) => F0 m 49 ls [.int s0]) (fun (u : Int32 × CS) => match u with | (s0, gs) => qn gs - qn st) (fun (u : Int32 × CS) => match u with | (s0, gs) => qs gs - qs st) ?_ (fun J49 => ?_)
  · intro u H locs ls hu
    obtain ⟨s0, gs⟩ := u
    obtain ⟨hf, hp, hl, hm⟩ := hu
    show W p l e _ s m _ below meth c _ _ (qn gs - qn st) (qs gs - qs st) _ (F0 m 49 ls [.int s0])
    unfold fX6_takeKind_49 at hf
    refine lv_if_eq (tgt := 56) hx hb dX6_takeKind_49 (by decide) (fun c_1 => ?_) (fun c_1 => ?_)
    · have hf := pif_t c_1 hf
      refine lv_iconst (v := 0) hx hb dX6_takeKind_56 (by decide) ?_
      obtain ⟨e1, e2⟩ := pr_some hf
      refine W.widen (k := qn st' - qn st) (n := qs st' - qs st) (by rw [e2]; exact Nat.le_refl _) (by rw [e2]; exact Nat.le_refl _) ?_
      exact W.zret (v := 0) hx hb hr rfl (fun t ht hW => ⟨⟨0, (), rfl, e1, Cp.end e2 hp ht⟩, hp.2.1.F ht⟩) hp.2.1.2.2 dX6_takeKind_57
    · have hf := pif_f c_1 hf
      refine lv_iconst (v := 1) hx hb dX6_takeKind_52 (by decide) ?_
      refine lv_goto (tgt := 57) hx hb dX6_takeKind_53 (by decide) ?_
      obtain ⟨e1, e2⟩ := pr_some hf
      refine W.widen (k := qn st' - qn st) (n := qs st' - qs st) (by rw [e2]; exact Nat.le_refl _) (by rw [e2]; exact Nat.le_refl _) ?_
      exact W.zret (v := 1) hx hb hr rfl (fun t ht hW => ⟨⟨1, (), rfl, e1, Cp.end e2 hp ht⟩, hp.2.1.F ht⟩) hp.2.1.2.2 dX6_takeKind_57
  refine W_blkA (fun (u : Int32 × CS) H locs ls => match u with | (s0, gs) => fX6_takeKind_33 h0 s0 gs = some (r, st') ∧ Cp (dC, dI) ka ad ct A s.heap gs H locs ∧ lv_has ls 4 [] ∧ Mo st gs) (fun (u : Int32 × CS) ls => match u with | (s0, gs) => F0 m 33 ls [.int s0]) (fun (u : Int32 × CS) => match u with | (s0, gs) => qn gs - qn st) (fun (u : Int32 × CS) => match u with | (s0, gs) => qs gs - qs st) ?_ (fun J33 => ?_)
  · intro u H locs ls hu
    obtain ⟨s0, gs⟩ := u
    obtain ⟨hf, hp, hl, hm⟩ := hu
    show W p l e _ s m _ below meth c _ _ (qn gs - qn st) (qs gs - qs st) _ (F0 m 33 ls [.int s0])
    unfold fX6_takeKind_33 at hf
    obtain ⟨hz, hf⟩ := gd_some hf
    obtain ⟨e1, e2⟩ := pr_some hf
    refine W.widen (k := qn st' - qn st) (n := qs st' - qs st) (by rw [e2]; exact Nat.le_refl _) (by rw [e2]; exact Nat.le_refl _) ?_
    exact W.zret (v := s0) hx hb hr hz (fun t ht hW => ⟨⟨s0, (), rfl, e1, Cp.end e2 hp ht⟩, hp.2.1.F ht⟩) hp.2.1.2.2 dX6_takeKind_33
  refine W_blkA (fun (u : (Option Nat) × Int32 × Int32 × Int32 × (Option Nat) × CS) H locs ls => match u with | (l1, l2, l3, s0, s1, gs) => fX6_takeKind_17 h0 l1 l2 l3 s0 s1 gs = some (r, st') ∧ Cp (dC, dI) ka ad ct A s.heap gs H locs ∧ lv_has ls 4 [(0, .ref (ad h0)), (1, va_rf (Option.map ad l1)), (2, .int l2), (3, .int l3)] ∧ Mo st gs) (fun (u : (Option Nat) × Int32 × Int32 × Int32 × (Option Nat) × CS) ls => match u with | (l1, l2, l3, s0, s1, gs) => F0 m 17 ls [.int s0, va_rf (Option.map ad s1)]) (fun (u : (Option Nat) × Int32 × Int32 × Int32 × (Option Nat) × CS) => match u with | (l1, l2, l3, s0, s1, gs) => qn gs - qn st) (fun (u : (Option Nat) × Int32 × Int32 × Int32 × (Option Nat) × CS) => match u with | (l1, l2, l3, s0, s1, gs) => qs gs - qs st) ?_ (fun J17 => ?_)
  · intro u H locs ls hu
    obtain ⟨l1, l2, l3, s0, s1, gs⟩ := u
    obtain ⟨hf, hp, hl, hm⟩ := hu
    show W p l e _ s m _ below meth c _ _ (qn gs - qn st) (qs gs - qs st) _ (F0 m 17 ls [.int s0, va_rf (Option.map ad s1)])
    unfold fX6_takeKind_17 at hf
    obtain ⟨a_2, ha_3, hf⟩ := ono_some hf
    refine o_at1 ha_3 ?_
    obtain ⟨hk_4, hf⟩ := gd_some hf
    refine q_pi (ci := 2) (C := RX0) (T := TX0) (N := 7) (k := 1) (v := s0) (ty := .int) hx hb hts iRX0 tyX0 tyX0_ok nmX0 hown hK hp hk_4 (by decide) rfl rfl (by decide) rfl (Or.inr ⟨_, va_Nw.use rfl (hN.1 (.fieldLinkNest RX6 132 "RecordBench$Field" "kind" "I" "RecordBench") (by decide +kernel))⟩) (fun _ h9 => h9) rfl (by decide +kernel) rfl rfl dX6_takeKind_17 (fun H locs hp => ?_)
    obtain ⟨st_5, est_5, hf⟩ := nam_some hf
    rw [← est_5] at hp
    have hm := hm.wI est_5
    refine W.widen (k := qn st_5 - qn st) (n := qs st_5 - qs st) (by rw [est_5]; exact Nat.le_refl _) (by rw [est_5]; exact Nat.le_refl _) ?_
    have hk_4 : qk st_5 a_2 = 3 := by rw [est_5]; exact hk_4
    refine o_aload_n hx hb dX6_takeKind_20 rfl (lv_at hl 1 rfl) ?_
    obtain ⟨a_6, ha_7, hf⟩ := ono_some hf
    refine o_at ha_7 ?_
    obtain ⟨hk_8, hf⟩ := gd_some hf
    refine q_gi (ci := 2) (C := RX0) (T := TX0) (N := 7) (k := 1) hx hb hts iRX0 hown hK hp hk_8 (by decide) rfl rfl (by decide) rfl (Or.inr ⟨_, va_Nw.use rfl (hN.1 (.fieldLinkNest RX6 132 "RecordBench$Field" "kind" "I" "RecordBench") (by decide +kernel))⟩) (fun _ h9 => h9) dX6_takeKind_21 ?_
    refine lv_if_ne (tgt := 34) hx hb dX6_takeKind_24 (by decide) (fun c_9 => ?_) (fun c_9 => ?_)
    · have hf := pif_f c_9 hf
      refine o_aload_n hx hb dX6_takeKind_34 rfl (lv_at hl 1 rfl) ?_
      refine o_at ha_7 ?_
      refine q_gi (ci := 2) (C := RX0) (T := TX0) (N := 7) (k := 1) hx hb hts iRX0 hown hK hp hk_8 (by decide) rfl rfl (by decide) rfl (Or.inr ⟨_, va_Nw.use rfl (hN.1 (.fieldLinkNest RX6 132 "RecordBench$Field" "kind" "I" "RecordBench") (by decide +kernel))⟩) (fun _ h9 => h9) dX6_takeKind_35 ?_
      refine lv_bipush (v := 6) hx hb dX6_takeKind_38 (by decide) ?_
      refine lv_icmp_ne (tgt := 52) hx hb dX6_takeKind_40 (by decide) (fun c_10 => ?_) (fun c_10 => ?_)
      · have hf := pif_f c_10 hf
        refine lv_iconst (v := 1) hx hb dX6_takeKind_52 (by decide) ?_
        refine lv_goto (tgt := 57) hx hb dX6_takeKind_53 (by decide) ?_
        obtain ⟨e1, e2⟩ := pr_some hf
        refine W.widen (k := qn st' - qn st) (n := qs st' - qs st) (by rw [e2]; exact Nat.le_refl _) (by rw [e2]; exact Nat.le_refl _) ?_
        exact W.zret (v := 1) hx hb hr rfl (fun t ht hW => ⟨⟨1, (), rfl, e1, Cp.end e2 hp ht⟩, hp.2.1.F ht⟩) hp.2.1.2.2 dX6_takeKind_57
      · have hf := pif_t c_10 hf
        refine lv_aload_n hx hb dX6_takeKind_43 rfl (lv_at hl 0 rfl) ?_
        refine o_aload_n hx hb dX6_takeKind_44 rfl (lv_at hl 1 rfl) ?_
        refine lv_iload_n hx hb dX6_takeKind_45 rfl (lv_at hl 2 rfl) ?_
        obtain ⟨hk_11, hf⟩ := gd_some hf
        obtain ⟨r_14, st_12, hc_13, hf⟩ := bnd_some hf
        have hmc := (mo_X6_takeRec h0 l1 l2 _ _ _ hc_13).mo
        have hmr := mo_X6_takeKind_49 h0 _ _ _ _ hf
        refine q_ci hp hA (va_runV (As := [va_rf (Option.map ad l1), .int l2]) (rest := []) ⟨hx, hb, hml, hown, hts⟩ (c_X6_takeRec l dC dI ka ad ct h0 l1 l2 _ _ _ hc_13 _) (cwV 2 hts gq_X6_takeKind_X6_takeRec_135 rfl rfl rfl (by decide +kernel) ⟨Nat.le_of_ble_eq_true rfl, Nat.le_of_ble_eq_true rfl⟩) ⟨PrC.blind _, q_rv8 hK hp hC hk_11, q_pre hp hK hN hZ hC hR hL hA⟩ rfl rfl hl.1 rfl (lv_room (Nat.le_of_ble_eq_true rfl)) dX6_takeKind_46 ⟨by show qn st_5 - qn st + 0 ≤ qn st' - qn st; have := hmr.1; have := hm.1; have := hmc.1; omega, by show qs st_5 - qs st + 0 ≤ qs st' - qs st; have := hmr.2.1; have := hm.2.1; have := hmc.2.1; omega⟩) (fun H locs hp => ?_)
        have hk_4 : qk st_12 a_2 = 3 := by rw [(mo_X6_takeRec h0 l1 l2 _ _ _ hc_13).2.2.1]; exact hk_4
        have hk_8 : qk st_12 a_6 = 3 := by rw [(mo_X6_takeRec h0 l1 l2 _ _ _ hc_13).2.2.1]; exact hk_8
        have hk_11 : qk st_12 h0 = 9 := by rw [(mo_X6_takeRec h0 l1 l2 _ _ _ hc_13).2.2.1]; exact hk_11
        refine W.widen (k := qn st_12 - qn st) (n := qs st_12 - qs st) (by have := hmc.1; omega) (by have := hmc.2.1; omega) ?_
        have hm := hm.tr hmc
        exact J49 (r_14, st_12) _ _ _ ⟨hf, hp, (lv_sub hl [] rfl), hm⟩
    · have hf := pif_t c_9 hf
      refine lv_aload_n hx hb dX6_takeKind_27 rfl (lv_at hl 0 rfl) ?_
      refine lv_iconst (v := 1) hx hb dX6_takeKind_28 (by decide) ?_
      refine lv_iload_n hx hb dX6_takeKind_29 rfl (lv_at hl 3 rfl) ?_
      obtain ⟨hk_15, hf⟩ := gd_some hf
      obtain ⟨r_18, st_16, hc_17, hf⟩ := bnd_some hf
      have hmc := (mo_X6_refuse h0 1 l3 _ _ _ hc_17).mo
      have hmr := mo_X6_takeKind_33 h0 _ _ _ _ hf
      refine q_ci hp hA (va_runV (As := [.int 1, .int l3]) (rest := []) ⟨hx, hb, hml, hown, hts⟩ (c_X6_refuse l dC dI ka ad ct h0 1 l3 _ _ _ hc_17 _) (cwV 2 hts gq_X6_takeKind_X6_refuse_48 rfl rfl rfl (by decide +kernel) ⟨Nat.le_of_ble_eq_true rfl, Nat.le_of_ble_eq_true rfl⟩) ⟨PrC.blind _, q_rv8 hK hp hC hk_15, q_pre hp hK hN hZ hC hR hL hA⟩ rfl rfl hl.1 rfl (lv_room (Nat.le_of_ble_eq_true rfl)) dX6_takeKind_30 ⟨by show qn st_5 - qn st + 0 ≤ qn st' - qn st; have := hmr.1; have := hm.1; have := hmc.1; omega, by show qs st_5 - qs st + 0 ≤ qs st' - qs st; have := hmr.2.1; have := hm.2.1; have := hmc.2.1; omega⟩) (fun H locs hp => ?_)
      have hk_4 : qk st_16 a_2 = 3 := by rw [(mo_X6_refuse h0 1 l3 _ _ _ hc_17).2.2.1]; exact hk_4
      have hk_8 : qk st_16 a_6 = 3 := by rw [(mo_X6_refuse h0 1 l3 _ _ _ hc_17).2.2.1]; exact hk_8
      have hk_15 : qk st_16 h0 = 9 := by rw [(mo_X6_refuse h0 1 l3 _ _ _ hc_17).2.2.1]; exact hk_15
      refine W.widen (k := qn st_16 - qn st) (n := qs st_16 - qs st) (by have := hmc.1; omega) (by have := hmc.2.1; omega) ?_
      have hm := hm.tr hmc
      exact J33 (r_18, st_16) _ _ _ ⟨hf, hp, (lv_sub hl [] rfl), hm⟩
  refine W_blkA (fun (u : (Option Nat) × Int32 × Int32 × (Option Nat) × (Option Nat) × CS) H locs ls => match u with | (l1, l2, l3, s0, s1, gs) => fX6_takeKind_14 h0 l1 l2 l3 s0 s1 gs = some (r, st') ∧ Cp (dC, dI) ka ad ct A s.heap gs H locs ∧ lv_has ls 4 [(0, .ref (ad h0)), (1, va_rf (Option.map ad l1)), (2, .int l2), (3, .int l3)] ∧ Mo st gs) (fun (u : (Option Nat) × Int32 × Int32 × (Option Nat) × (Option Nat) × CS) ls => match u with | (l1, l2, l3, s0, s1, gs) => F0 m 14 ls [va_rf (Option.map ad s0), va_rf (Option.map ad s1)]) (fun (u : (Option Nat) × Int32 × Int32 × (Option Nat) × (Option Nat) × CS) => match u with | (l1, l2, l3, s0, s1, gs) => qn gs - qn st) (fun (u : (Option Nat) × Int32 × Int32 × (Option Nat) × (Option Nat) × CS) => match u with | (l1, l2, l3, s0, s1, gs) => qs gs - qs st) ?_ (fun J14 => ?_)
  · intro u H locs ls hu
    obtain ⟨l1, l2, l3, s0, s1, gs⟩ := u
    obtain ⟨hf, hp, hl, hm⟩ := hu
    show W p l e _ s m _ below meth c _ _ (qn gs - qn st) (qs gs - qs st) _ (F0 m 14 ls [va_rf (Option.map ad s0), va_rf (Option.map ad s1)])
    unfold fX6_takeKind_14 at hf
    obtain ⟨r_21, st_19, hc_20, hf⟩ := bnd_some hf
    have hmc := (mo_X6_kindOf s0 _ _ _ hc_20).mo
    have hmr := mo_X6_takeKind_17 h0 _ _ _ _ _ _ _ _ hf
    refine q_ci hp hA (va_runS (As := [va_rf (Option.map ad s0)]) (rest := [va_rf (Option.map ad s1)]) ⟨hx, hb, hml, hown, hts⟩ (c_X6_kindOf l dC dI ka ad ct s0 _ _ _ hc_20 _) (va_cwS 1 hts gq_X6_takeKind_X6_kindOf_124 rfl rfl rfl (by decide +kernel) ⟨Nat.le_of_ble_eq_true rfl, Nat.le_of_ble_eq_true rfl⟩) ⟨PrC.blind _, q_pre hp hK hN hZ hC hR hL hA⟩ rfl rfl hl.1 rfl (lv_room (by simp [rf_cat, vc_i, vc_l, vc_r, vc_n])) dX6_takeKind_14 ⟨by show qn gs - qn st + 0 ≤ qn st' - qn st; have := hmr.1; have := hm.1; have := hmc.1; omega, by show qs gs - qs st + 0 ≤ qs st' - qs st; have := hmr.2.1; have := hm.2.1; have := hmc.2.1; omega⟩) (fun H locs hp => ?_)
    refine W.widen (k := qn st_19 - qn st) (n := qs st_19 - qs st) (by have := hmc.1; omega) (by have := hmc.2.1; omega) ?_
    have hm := hm.tr hmc
    exact J17 (l1, l2, l3, r_21, s1, st_19) _ _ _ ⟨hf, hp, (lv_sub hl [0, 1, 2, 3] rfl), hm⟩
  refine W_blkA (fun (u : (Option Nat) × Int32 × CS) H locs ls => match u with | (l1, l2, gs) => fX6_takeKind_4 h0 l1 l2 gs = some (r, st') ∧ Cp (dC, dI) ka ad ct A s.heap gs H locs ∧ lv_has ls 4 [(0, .ref (ad h0)), (1, va_rf (Option.map ad l1)), (2, .int l2)] ∧ Mo st gs) (fun (u : (Option Nat) × Int32 × CS) ls => match u with | (l1, l2, gs) => F0 m 4 ls []) (fun (u : (Option Nat) × Int32 × CS) => match u with | (l1, l2, gs) => qn gs - qn st) (fun (u : (Option Nat) × Int32 × CS) => match u with | (l1, l2, gs) => qs gs - qs st) ?_ (fun J4 => ?_)
  · intro u H locs ls hu
    obtain ⟨l1, l2, gs⟩ := u
    obtain ⟨hf, hp, hl, hm⟩ := hu
    show W p l e _ s m _ below meth c _ _ (qn gs - qn st) (qs gs - qs st) _ (F0 m 4 ls [])
    unfold fX6_takeKind_4 at hf
    refine lv_aload_n hx hb dX6_takeKind_4 rfl (lv_at hl 0 rfl) ?_
    obtain ⟨hk_22, hf⟩ := gd_some hf
    refine q_gi (ci := 8) (C := RX6) (T := TX6) (N := 6) (k := 3) hx hb hts iRX6 hown hK hp hk_22 (by decide) rfl rfl (by decide) rfl (Or.inl (hts (.fieldLink RX6 26 "RecordBench$TextReader" "pos" "I") (by decide +kernel))) (fun _ h9 => h9) dX6_takeKind_5 ?_
    obtain ⟨v_23, ev_23, hf⟩ := nam_some hf
    refine W_toi (y := v_23) ev_23.symm ?_
    refine lv_istore_n (i := 3) (lv' := [(3, .int v_23), (0, .ref (ad h0)), (1, va_rf (Option.map ad l1)), (2, .int l2)]) hx hb dX6_takeKind_8 rfl hl (by decide) rfl (fun ls hl => ?_)
    refine o_aload_n hx hb dX6_takeKind_9 rfl (lv_at hl 2 rfl) ?_
    refine lv_aload_n hx hb dX6_takeKind_10 rfl (lv_at hl 1 rfl) ?_
    obtain ⟨r_26, st_24, hc_25, hf⟩ := bnd_some hf
    have lthk_22 := hp.2.2.1.lt (i := h0) (by rw [hk_22]; decide)
    have hmc := (mo_X6_takeWord h0 _ _ _ hc_25)
    have hmr := mo_X6_takeKind_14 h0 _ _ _ _ _ _ _ _ hf
    refine q_cq hp hA (va_runV (As := []) (rest := [va_rf (Option.map ad l1)]) ⟨hx, hb, hml, hown, hts⟩ (c_X6_takeWord l dC dI ka ad ct h0 _ _ _ hc_25 _) (cwV 0 hts gq_X6_takeKind_X6_takeWord_111 rfl rfl rfl (by decide +kernel) ⟨Nat.le_of_ble_eq_true rfl, Nat.le_of_ble_eq_true rfl⟩) ⟨PrC.blind _, q_rv8 hK hp hC hk_22, q_pre hp hK hN hZ hC hR hL hA⟩ rfl rfl hl.1 rfl (lv_room (by simp [rf_cat, vc_i, vc_l, vc_r, vc_n])) dX6_takeKind_11 ⟨by show qn gs - qn st + (qn st_24 - qn gs) ≤ qn st' - qn st; have := hmr.1; have := hm.1; have := hmc.1; omega, by show qs gs - qs st + (qs st_24 - qs gs) ≤ qs st' - qs st; have := hmr.2.1; have := hm.2.1; have := hmc.2.1; omega⟩) (fun H locs hp => ?_)
    have hk_22 : qk st_24 h0 = 9 := ((mo_X6_takeWord h0 _ _ _ hc_25).2.2 _ lthk_22).1.trans hk_22
    refine W.widen (k := qn st_24 - qn st) (n := qs st_24 - qs st) (by have := hm.1; have := hmc.1; omega) (by have := hm.2.1; have := hmc.2.1; omega) ?_
    have hm := hm.tr hmc
    exact J14 (l1, l2, v_23, r_26, l1, st_24) _ _ _ ⟨hf, hp, (lv_sub hl [1, 2, 3, 0] rfl), hm⟩
  unfold fX6_takeKind at hf
  refine lv_aload_n hx hb dX6_takeKind_0 rfl (lv_at hl 0 rfl) ?_
  obtain ⟨hk_27, hf⟩ := gd_some hf
  obtain ⟨st_28, hc_29, hf⟩ := bnv_some hf
  have hmc := (mo_X6_skipBlanks h0 _ _ hc_29).mo
  have hmr := mo_X6_takeKind_4 h0 _ _ _ _ _ hf
  refine q_cv hp hA (va_runV (As := []) (rest := []) ⟨hx, hb, hml, hown, hts⟩ (c_X6_skipBlanks l dC dI ka ad ct h0 _ _ hc_29 _) (cwV 0 hts gq_X6_takeKind_X6_skipBlanks_39 rfl rfl rfl (by decide +kernel) ⟨Nat.le_of_ble_eq_true rfl, Nat.le_of_ble_eq_true rfl⟩) ⟨PrC.blind _, q_rv8 hK hp hC hk_27, q_pre hp hK hN hZ hC hR hL hA⟩ rfl rfl hl.1 rfl (lv_room (Nat.le_of_ble_eq_true rfl)) dX6_takeKind_1 ⟨by show qn st - qn st + 0 ≤ qn st' - qn st; have := hmr.1; have := hm.1; have := hmc.1; omega, by show qs st - qs st + 0 ≤ qs st' - qs st; have := hmr.2.1; have := hm.2.1; have := hmc.2.1; omega⟩) (fun H locs hp => ?_)
  have hk_27 : qk st_28 h0 = 9 := by rw [(mo_X6_skipBlanks h0 _ _ hc_29).2.2.1]; exact hk_27
  refine W.widen (k := qn st_28 - qn st) (n := qs st_28 - qs st) (by have := hmc.1; omega) (by have := hmc.2.1; omega) ?_
  have hm := hm.tr hmc
  exact J4 (p0, p1, st_28) _ _ _ ⟨hf, hp, (lv_sub hl [0, 1, 2] rfl), hm⟩
noncomputable def fX6_takeGroup_94 (h0 : Nat)  (s0 : Int32) (gs : CS) : Option (Int32 × CS) := gd (narrow .boolean (.int s0) = .int s0) (some (s0, gs))
set_option maxHeartbeats 1000000 in
theorem mo_X6_takeGroup_94 (h0 : Nat)   (s0 : Int32) (gs : CS) (r : Int32) (st' : CS) (hf : fX6_takeGroup_94 h0 s0 gs = some (r, st')) : Mo gs st' := by
  unfold fX6_takeGroup_94 at hf
  have hm : Mo gs gs := Mo.rf
  obtain ⟨hz, hf⟩ := gd_some hf
  obtain ⟨e1, e2⟩ := pr_some hf
  exact e2 ▸ hm
noncomputable def fX6_takeGroup_85 (h0 : Nat)  (gs : CS) : Option (Int32 × CS) := gd (qk gs h0 = 9) (bnd (fX6_refuse h0 1 (qI gs h0 3) gs) (fun r_4 st_2 => fX6_takeGroup_94 h0 r_4 st_2))
set_option maxHeartbeats 1000000 in
theorem mo_X6_takeGroup_85 (h0 : Nat)   (gs : CS) (r : Int32) (st' : CS) (hf : fX6_takeGroup_85 h0 gs = some (r, st')) : Mo gs st' := by
  unfold fX6_takeGroup_85 at hf
  have hm : Mo gs gs := Mo.rf
  obtain ⟨hk_1, hf⟩ := gd_some hf
  obtain ⟨r_4, st_2, hc_3, hf⟩ := bnd_some hf
  have hm := hm.ke (mo_X6_refuse h0 1 (qI gs h0 3) _ _ _ hc_3)
  exact hm.tr (mo_X6_takeGroup_94 h0 r_4 st_2 _ _ hf)
noncomputable def fX6_takeGroup_74 (h0 : Nat)  (l1 : Option Nat) (s0 : Int32) (gs : CS) : Option (Int32 × CS) := pif (s0 < 1) (fX6_takeGroup_85 h0 gs) (pif (s0 ≤ 3) (ono l1 (fun a_7 => gd (qk gs a_7 = 3) (nam (wI gs a_7 2 s0) (fun st_10 => gd (qk st_10 h0 = 9) (nam (wI st_10 h0 3 ((qI st_10 h0 3) + 1)) (fun st_12 => some ((1 : Int32), st_12))))))) (fX6_takeGroup_85 h0 gs))
set_option maxHeartbeats 1000000 in
theorem mo_X6_takeGroup_74 (h0 : Nat)   (l1 : Option Nat) (s0 : Int32) (gs : CS) (r : Int32) (st' : CS) (hf : fX6_takeGroup_74 h0 l1 s0 gs = some (r, st')) : Mo gs st' := by
  unfold fX6_takeGroup_74 at hf
  have hm : Mo gs gs := Mo.rf
  rcases pif_or hf with ⟨c_5, hf⟩ | ⟨c_5, hf⟩
  · exact hm.tr (mo_X6_takeGroup_85 h0 gs _ _ hf)
  · rcases pif_or hf with ⟨c_6, hf⟩ | ⟨c_6, hf⟩
    · obtain ⟨a_7, ha_8, hf⟩ := ono_some hf
      obtain ⟨hk_9, hf⟩ := gd_some hf
      obtain ⟨st_10, est_10, hf⟩ := nam_some hf
      have hm := hm.wI est_10
      obtain ⟨hk_11, hf⟩ := gd_some hf
      obtain ⟨st_12, est_12, hf⟩ := nam_some hf
      have hm := hm.wI est_12
      obtain ⟨e1, e2⟩ := pr_some hf
      exact e2 ▸ hm
    · exact hm.tr (mo_X6_takeGroup_85 h0 gs _ _ hf)
noncomputable def fX6_takeGroup_66 (h0 : Nat)  (l1 : Option Nat) (gs : CS) : Option (Int32 × CS) := gd (qk gs h0 = 9) (bnd (fX6_digitAt h0 (qI gs h0 3) gs) (fun r_16 st_14 => fX6_takeGroup_74 h0 l1 r_16 st_14))
set_option maxHeartbeats 1000000 in
theorem mo_X6_takeGroup_66 (h0 : Nat)   (l1 : Option Nat) (gs : CS) (r : Int32) (st' : CS) (hf : fX6_takeGroup_66 h0 l1 gs = some (r, st')) : Mo gs st' := by
  unfold fX6_takeGroup_66 at hf
  have hm : Mo gs gs := Mo.rf
  obtain ⟨hk_13, hf⟩ := gd_some hf
  obtain ⟨r_16, st_14, hc_15, hf⟩ := bnd_some hf
  have hm := hm.ke (mo_X6_digitAt h0 (qI gs h0 3) _ _ _ hc_15)
  exact hm.tr (mo_X6_takeGroup_74 h0 l1 r_16 st_14 _ _ hf)
noncomputable def fX6_takeGroup_61 (h0 : Nat)  (s0 : Int32) (gs : CS) : Option (Int32 × CS) := gd (narrow .boolean (.int s0) = .int s0) (some (s0, gs))
set_option maxHeartbeats 1000000 in
theorem mo_X6_takeGroup_61 (h0 : Nat)   (s0 : Int32) (gs : CS) (r : Int32) (st' : CS) (hf : fX6_takeGroup_61 h0 s0 gs = some (r, st')) : Mo gs st' := by
  unfold fX6_takeGroup_61 at hf
  have hm : Mo gs gs := Mo.rf
  obtain ⟨hz, hf⟩ := gd_some hf
  obtain ⟨e1, e2⟩ := pr_some hf
  exact e2 ▸ hm
noncomputable def fX6_takeGroup_49 (h0 : Nat)  (l1 : Option Nat) (s0 : Int32) (gs : CS) : Option (Int32 × CS) := pif (s0 = 0) (gd (qk gs h0 = 9) (bnv (fX6_skipBlanks h0 gs) (fun st_19 => fX6_takeGroup_66 h0 l1 st_19))) (gd (qk gs h0 = 9) (bnd (fX6_refuse h0 1 (qI gs h0 3) gs) (fun r_25 st_23 => fX6_takeGroup_61 h0 r_25 st_23)))
set_option maxHeartbeats 1000000 in
theorem mo_X6_takeGroup_49 (h0 : Nat)   (l1 : Option Nat) (s0 : Int32) (gs : CS) (r : Int32) (st' : CS) (hf : fX6_takeGroup_49 h0 l1 s0 gs = some (r, st')) : Mo gs st' := by
  unfold fX6_takeGroup_49 at hf
  have hm : Mo gs gs := Mo.rf
  rcases pif_or hf with ⟨c_17, hf⟩ | ⟨c_17, hf⟩
  · obtain ⟨hk_18, hf⟩ := gd_some hf
    obtain ⟨st_19, hc_20, hf⟩ := bnv_some hf
    have hm := hm.ke (mo_X6_skipBlanks h0 _ _ hc_20)
    exact hm.tr (mo_X6_takeGroup_66 h0 l1 st_19 _ _ hf)
  · obtain ⟨hk_22, hf⟩ := gd_some hf
    obtain ⟨r_25, st_23, hc_24, hf⟩ := bnd_some hf
    have hm := hm.ke (mo_X6_refuse h0 1 (qI gs h0 3) _ _ _ hc_24)
    exact hm.tr (mo_X6_takeGroup_61 h0 r_25 st_23 _ _ hf)
noncomputable def fX6_takeGroup_40 (h0 : Nat)  (s0 : Int32) (gs : CS) : Option (Int32 × CS) := gd (narrow .boolean (.int s0) = .int s0) (some (s0, gs))
set_option maxHeartbeats 1000000 in
theorem mo_X6_takeGroup_40 (h0 : Nat)   (s0 : Int32) (gs : CS) (r : Int32) (st' : CS) (hf : fX6_takeGroup_40 h0 s0 gs = some (r, st')) : Mo gs st' := by
  unfold fX6_takeGroup_40 at hf
  have hm : Mo gs gs := Mo.rf
  obtain ⟨hz, hf⟩ := gd_some hf
  obtain ⟨e1, e2⟩ := pr_some hf
  exact e2 ▸ hm
noncomputable def fX6_takeGroup_31 (h0 : Nat)  (l1 : Option Nat) (l2 : Int32) (s0 : Int32) (gs : CS) : Option (Int32 × CS) := pif (s0 = 0) (gd (qk gs h0 = 9) (bnd (fX6_refuse h0 1 l2 gs) (fun r_34 st_32 => fX6_takeGroup_40 h0 r_34 st_32))) (gd (qk gs h0 = 9) (bnd (fX6_isDigit h0 (qI gs h0 3) gs) (fun r_30 st_28 => fX6_takeGroup_49 h0 l1 r_30 st_28)))
set_option maxHeartbeats 1000000 in
theorem mo_X6_takeGroup_31 (h0 : Nat)   (l1 : Option Nat) (l2 : Int32) (s0 : Int32) (gs : CS) (r : Int32) (st' : CS) (hf : fX6_takeGroup_31 h0 l1 l2 s0 gs = some (r, st')) : Mo gs st' := by
  unfold fX6_takeGroup_31 at hf
  have hm : Mo gs gs := Mo.rf
  rcases pif_or hf with ⟨c_26, hf⟩ | ⟨c_26, hf⟩
  · obtain ⟨hk_31, hf⟩ := gd_some hf
    obtain ⟨r_34, st_32, hc_33, hf⟩ := bnd_some hf
    have hm := hm.ke (mo_X6_refuse h0 1 l2 _ _ _ hc_33)
    exact hm.tr (mo_X6_takeGroup_40 h0 r_34 st_32 _ _ hf)
  · obtain ⟨hk_27, hf⟩ := gd_some hf
    obtain ⟨r_30, st_28, hc_29, hf⟩ := bnd_some hf
    have hm := hm.ke (mo_X6_isDigit h0 (qI gs h0 3) _ _ _ hc_29)
    exact hm.tr (mo_X6_takeGroup_49 h0 l1 r_30 st_28 _ _ hf)
noncomputable def fX6_takeGroup_26 (h0 : Nat)  (l1 : Option Nat) (l2 : Int32) (s0 : Option Nat) (gs : CS) : Option (Int32 × CS) := ono s0 (fun a_35 => gd (qk gs a_35 = 1) (bnd (fJ0_equals_9ea2d a_35 (some 8) gs) (fun r_40 st_38 => fX6_takeGroup_31 h0 l1 l2 r_40 st_38)))
set_option maxHeartbeats 1000000 in
theorem mo_X6_takeGroup_26 (h0 : Nat)   (l1 : Option Nat) (l2 : Int32) (s0 : Option Nat) (gs : CS) (r : Int32) (st' : CS) (hf : fX6_takeGroup_26 h0 l1 l2 s0 gs = some (r, st')) : Mo gs st' := by
  unfold fX6_takeGroup_26 at hf
  have hm : Mo gs gs := Mo.rf
  obtain ⟨a_35, ha_36, hf⟩ := ono_some hf
  obtain ⟨hk_37, hf⟩ := gd_some hf
  obtain ⟨r_40, st_38, hc_39, hf⟩ := bnd_some hf
  have hm := hm.ke (mo_J0_equals_9ea2d a_35 (some 8) _ _ _ hc_39)
  exact hm.tr (mo_X6_takeGroup_31 h0 l1 l2 r_40 st_38 _ _ hf)
noncomputable def fX6_takeGroup_12 (h0 : Nat)  (l1 : Option Nat) (s0 : Int32) (gs : CS) : Option (Int32 × CS) := pif (s0 = 0) (some ((1 : Int32), gs)) (gd (qk gs h0 = 9) (nam (qI gs h0 3) (fun v_43 => bnd (fX6_takeWord h0 gs) (fun r_46 st_44 => fX6_takeGroup_26 h0 l1 v_43 r_46 st_44))))
set_option maxHeartbeats 1000000 in
theorem mo_X6_takeGroup_12 (h0 : Nat)   (l1 : Option Nat) (s0 : Int32) (gs : CS) (r : Int32) (st' : CS) (hf : fX6_takeGroup_12 h0 l1 s0 gs = some (r, st')) : Mo gs st' := by
  unfold fX6_takeGroup_12 at hf
  have hm : Mo gs gs := Mo.rf
  rcases pif_or hf with ⟨c_41, hf⟩ | ⟨c_41, hf⟩
  · obtain ⟨e1, e2⟩ := pr_some hf
    exact e2 ▸ hm
  · obtain ⟨hk_42, hf⟩ := gd_some hf
    obtain ⟨v_43, ev_43, hf⟩ := nam_some hf
    obtain ⟨r_46, st_44, hc_45, hf⟩ := bnd_some hf
    have hm := hm.tr (mo_X6_takeWord h0 _ _ _ hc_45)
    exact hm.tr (mo_X6_takeGroup_26 h0 l1 v_43 r_46 st_44 _ _ hf)
noncomputable def fX6_takeGroup_4 (h0 : Nat)  (l1 : Option Nat) (gs : CS) : Option (Int32 × CS) := gd (qk gs h0 = 9) (bnd (fX6_isLetter h0 (qI gs h0 3) gs) (fun r_50 st_48 => fX6_takeGroup_12 h0 l1 r_50 st_48))
set_option maxHeartbeats 1000000 in
theorem mo_X6_takeGroup_4 (h0 : Nat)   (l1 : Option Nat) (gs : CS) (r : Int32) (st' : CS) (hf : fX6_takeGroup_4 h0 l1 gs = some (r, st')) : Mo gs st' := by
  unfold fX6_takeGroup_4 at hf
  have hm : Mo gs gs := Mo.rf
  obtain ⟨hk_47, hf⟩ := gd_some hf
  obtain ⟨r_50, st_48, hc_49, hf⟩ := bnd_some hf
  have hm := hm.ke (mo_X6_isLetter h0 (qI gs h0 3) _ _ _ hc_49)
  exact hm.tr (mo_X6_takeGroup_12 h0 l1 r_50 st_48 _ _ hf)
noncomputable def fX6_takeGroup (h0 : Nat) (p0 : Option Nat) (st : CS) : Option (Int32 × CS) := gd (qk st h0 = 9) (bnv (fX6_skipBlanks h0 st) (fun st_52 => fX6_takeGroup_4 h0 p0 st_52))
set_option maxHeartbeats 1000000 in
theorem mo_X6_takeGroup (h0 : Nat) (p0 : Option Nat) (st : CS) (r : Int32) (st' : CS) (hf : fX6_takeGroup h0 p0 st = some (r, st')) : Mo st st' := by
  unfold fX6_takeGroup at hf
  have hm : Mo st st := Mo.rf
  obtain ⟨hk_51, hf⟩ := gd_some hf
  obtain ⟨st_52, hc_53, hf⟩ := bnv_some hf
  have hm := hm.ke (mo_X6_skipBlanks h0 _ _ hc_53)
  exact hm.tr (mo_X6_takeGroup_4 h0 p0 st_52 _ _ hf)
def wq_X6_takeGroup : List Cond := .code yX6_takeGroup cX6_takeGroup 4 (some .boolean) :: (([.fieldLink RX6 26 "RecordBench$TextReader" "pos" "I", .methodLink RX6 48 yX6_refuse, .instanceMethod yX6_refuse, .selects RX6 yX6_refuse yX6_refuse, .initialized RX6, .methodLink RX6 97 yX6_digitAt, .instanceMethod yX6_digitAt, .selects RX6 yX6_digitAt yX6_digitAt, .methodLink RX6 39 yX6_skipBlanks, .instanceMethod yX6_skipBlanks, .selects RX6 yX6_skipBlanks yX6_skipBlanks, .methodLink RX6 93 yX6_isDigit, .instanceMethod yX6_isDigit, .selects RX6 yX6_isDigit yX6_isDigit, .methodLink RX6 120 yJ0_equals_9ea2d, .instanceMethod yJ0_equals_9ea2d, .selects RJ0 yJ0_equals_9ea2d yJ0_equals_9ea2d, .initialized RJ0, .methodLink RX6 111 yX6_takeWord, .instanceMethod yX6_takeWord, .selects RX6 yX6_takeWord yX6_takeWord, .methodLink RX6 108 yX6_isLetter, .instanceMethod yX6_isLetter, .selects RX6 yX6_isLetter yX6_isLetter, .code yX6_refuse cX6_refuse 3 (some .boolean), .fieldLink RX6 30 "RecordBench$TextReader" "fault" "I", .fieldLink RX6 33 "RecordBench$TextReader" "place" "I", .code yX6_digitAt cX6_digitAt 3 (some .int), .fieldLink RX6 9 "RecordBench$TextReader" "tape" "LRecordBench$Row;", .methodLink RX6 150 yX5_byteAt, .instanceMethod yX5_byteAt, .selects RX5 yX5_byteAt yX5_byteAt, .initialized RX5, .code yX5_byteAt cX5_byteAt 2 (some .int), .fieldLink RX5 21 "RecordBench$Row" "size" "I", .fieldLink RX5 15 "RecordBench$Row" "bytes" "[I", .code yX6_skipBlanks cX6_skipBlanks 3 none, .methodLink RX6 42 yX5_size, .instanceMethod yX5_size, .selects RX5 yX5_size yX5_size, .methodLink RX6 189 yX6_isBlank, .static yX6_isBlank, .code yX5_size cX5_size 1 (some .int), .code yX6_isBlank cX6_isBlank 1 (some .boolean), .code yX6_isDigit cX6_isDigit 3 (some .boolean), .code yJ0_equals_9ea2d cJ0_equals_9ea2d 3 (some .boolean), .classLink RJ0 10 "java/lang/String", .fieldLink RJ0 38 "java/lang/String" "COMPACT_STRINGS" "Z", .fieldLink RJ0 15 "java/lang/String" "coder" "B", .fieldLink RJ0 9 "java/lang/String" "value" "[B", .methodLink RJ0 541 yJ1_equals_b5fdf, .static yJ1_equals_b5fdf, .initialized RJ1, .code yJ1_equals_b5fdf cJ1_equals_b5fdf 3 (some .boolean), .code yX6_takeWord cX6_takeWord 2 (some (.object "java/lang/String")), .fieldLink RX6 22 "RecordBench$TextReader" "letters" "Ljava/lang/StringBuilder;", .methodLink RX6 182 yJ4_toString_0e30d, .instanceMethod yJ4_toString_0e30d, .selects RJ4 yJ4_toString_0e30d yJ4_toString_0e30d, .initialized RJ4, .methodLink RX6 188 yJ4_length_8abf5, .instanceMethod yJ4_length_8abf5, .selects RJ4 yJ4_length_8abf5 yJ4_length_8abf5, .methodLink RX6 178 yJ4_append_cf468, .instanceMethod yJ4_append_cf468, .selects RJ4 yJ4_append_cf468 yJ4_append_cf468, .methodLink RX6 171 yJ4_setLength_d00df, .instanceMethod yJ4_setLength_d00df, .selects RJ4 yJ4_setLength_d00df yJ4_setLength_d00df, .code yJ4_toString_0e30d cJ4_toString_0e30d 1 (some (.object "java/lang/String")), .instanceMethod yJ0_init_81219, .methodLink RJ4 137 yJ0_init_81219, .classLink RJ4 18 RJ0, .instantiable RJ0 4, .code yJ0_init_81219 cJ0_init_81219 2 none, .instanceMethod yJ0_init_db425, .methodLink RJ0 489 yJ0_init_db425, .code yJ0_init_db425 cJ0_init_db425 5 none, .methodLink RJ0 1 objectInit, .instanceMethod objectInit, .code objectInit ⟨#[0xb1]⟩ 1 none, .methodLink RJ0 54 yJ7_copyOfRange_39247, .static yJ7_copyOfRange_39247, .initialized RJ7, .methodLink RJ0 1047 ⟨"java/lang/AbstractStringBuilder", "isLatin1", "()Z"⟩, .sameMethod "java/lang/AbstractStringBuilder" "java/lang/AbstractStringBuilder" "isLatin1" "()Z", .selects RJ4 ⟨"java/lang/AbstractStringBuilder", "isLatin1", "()Z"⟩ yJ5_isLatin1_aae02, .instanceMethod yJ5_isLatin1_aae02, .initialized RJ5, .methodLink RJ0 549 ⟨"java/lang/AbstractStringBuilder", "length", "()I"⟩, .sameMethod "java/lang/AbstractStringBuilder" "java/lang/AbstractStringBuilder" "length" "()I", .instanceMethod yJ5_length_8abf5, .selects RJ4 ⟨"java/lang/AbstractStringBuilder", "length", "()I"⟩ yJ4_length_8abf5, .methodLink RJ0 552 ⟨"java/lang/AbstractStringBuilder", "getValue", "()[B"⟩, .sameMethod "java/lang/AbstractStringBuilder" "java/lang/AbstractStringBuilder" "getValue" "()[B", .selects RJ4 ⟨"java/lang/AbstractStringBuilder", "getValue", "()[B"⟩ yJ5_getValue_6d5f1, .instanceMethod yJ5_getValue_6d5f1, .code yJ7_copyOfRange_39247 cJ7_copyOfRange_39247 3 (some (.array .byte)), .classLink RJ7 311 "[B", .methodLink RJ7 339 yJ7_copyOfRangeByte_39247, .static yJ7_copyOfRangeByte_39247, .methodLink RJ7 310 ⟨"[B", "clone", "()Ljava/lang/Object;"⟩, .sameMethod "[B" "java/lang/Object" "clone" "()Ljava/lang/Object;", .native ⟨"java/lang/Object", "clone", "()Ljava/lang/Object;"⟩, .instanceMethod ⟨"java/lang/Object", "clone", "()Ljava/lang/Object;"⟩, .selects "[B" ⟨"[B", "clone", "()Ljava/lang/Object;"⟩ ⟨"java/lang/Object", "clone", "()Ljava/lang/Object;"⟩, .code yJ7_copyOfRangeByte_39247 cJ7_copyOfRangeByte_39247 5 (some (.array .byte)), .methodLink RJ7 304 Lib.Math.min.name, .static Lib.Math.min.name, .initialized "java/lang/Math", .code Lib.Math.min.name Lib.Math.min.code 2 (some .int), .methodLink RJ7 150 arraycopyName, .native arraycopyName, .static arraycopyName, .initialized "java/lang/System", .arrayClass .byte, .methodLink RJ7 343 yJ7_checkLength_df160, .static yJ7_checkLength_df160, .code yJ7_checkLength_df160 cJ7_checkLength_df160 2 none, .code yJ5_isLatin1_aae02 cJ5_isLatin1_aae02 1 (some .boolean), .fieldLink RJ5 18 "java/lang/String" "COMPACT_STRINGS" "Z", .fieldLink RJ5 22 "java/lang/AbstractStringBuilder" "coder" "B", .code yJ4_length_8abf5 cJ4_length_8abf5 1 (some .int), .methodLink RJ4 343 yJ5_length_8abf5, .superclass RJ4 RJ5, .code yJ5_length_8abf5 cJ5_length_8abf5 1 (some .int), .fieldLink RJ5 79 "java/lang/AbstractStringBuilder" "count" "I", .code yJ5_getValue_6d5f1 cJ5_getValue_6d5f1 1 (some (.array .byte)), .fieldLink RJ5 15 "java/lang/AbstractStringBuilder" "value" "[B", .code yJ4_append_cf468 cJ4_append_cf468 2 (some (.object "java/lang/StringBuilder")), .methodLink RJ4 50 yJ5_append_3fe6f, .sameMethod "java/lang/AbstractStringBuilder" "java/lang/AbstractStringBuilder" "append" "(C)Ljava/lang/AbstractStringBuilder;", .instanceMethod yJ5_append_3fe6f, .code yJ5_append_3fe6f cJ5_append_3fe6f 2 (some (.object "java/lang/AbstractStringBuilder")), .methodLink RJ5 191 yJ1_canEncode_fc78d, .static yJ1_canEncode_fc78d, .methodLink RJ5 83 ⟨"java/lang/AbstractStringBuilder", "isLatin1", "()Z"⟩, .methodLink RJ5 100 ⟨"java/lang/AbstractStringBuilder", "ensureCapacityInternal", "(I)V"⟩, .sameMethod "java/lang/AbstractStringBuilder" "java/lang/AbstractStringBuilder" "ensureCapacityInternal" "(I)V", .selects RJ4 ⟨"java/lang/AbstractStringBuilder", "ensureCapacityInternal", "(I)V"⟩ yJ5_ensureCapacityInternal_d00df, .instanceMethod yJ5_ensureCapacityInternal_d00df, .code yJ1_canEncode_fc78d cJ1_canEncode_fc78d 1 (some .boolean), .code yJ5_ensureCapacityInternal_d00df cJ5_ensureCapacityInternal_d00df 3 none, .methodLink RJ5 108 yJ7_copyOf_9075b, .static yJ7_copyOf_9075b, .methodLink RJ5 104 ⟨"java/lang/AbstractStringBuilder", "newCapacity", "(I)I"⟩, .sameMethod "java/lang/AbstractStringBuilder" "java/lang/AbstractStringBuilder" "newCapacity" "(I)I", .selects RJ4 ⟨"java/lang/AbstractStringBuilder", "newCapacity", "(I)I"⟩ yJ5_newCapacity_0f7a4, .instanceMethod yJ5_newCapacity_0f7a4, .code yJ7_copyOf_9075b cJ7_copyOf_9075b 3 (some (.array .byte)), .code yJ5_newCapacity_0f7a4 cJ5_newCapacity_0f7a4 6 (some .int), .constant RJ5 39 (2147483647), .methodLink RJ5 114 yJ8_newLength_cabcc, .static yJ8_newLength_cabcc, .initialized RJ8, .code yJ8_newLength_cabcc cJ8_newLength_cabcc 4 (some .int), .methodLink RJ8 194 Lib.Math.max.name, .static Lib.Math.max.name, .code Lib.Math.max.name Lib.Math.max.code 2 (some .int), .constant RJ8 200 (2147483639), .code yX6_isLetter cX6_isLetter 3 (some .boolean), .code yJ4_setLength_d00df cJ4_setLength_d00df 2 none, .methodLink RJ4 333 yJ5_setLength_d00df, .sameMethod "java/lang/AbstractStringBuilder" "java/lang/AbstractStringBuilder" "setLength" "(I)V", .instanceMethod yJ5_setLength_d00df, .code yJ5_setLength_d00df cJ5_setLength_d00df 2 none, .fieldLink RJ5 73 "java/lang/AbstractStringBuilder" "maybeLatin1" "Z"] : List Cond) ++ wsX60 ++ wsX00 ++ wsX50 ++ wsJ00 ++ wsJ40)
theorem gs_wq_X6_takeGroup_wsX60 : GoodIn wq_X6_takeGroup wsX60 := fun w h => ⟨List.mem_cons_of_mem _ (List.mem_append_left _ (List.mem_append_left _ (List.mem_append_left _ (List.mem_append_left _ (List.mem_append_right _ h))))), (gt_wsX60 w h).2⟩
set_option maxRecDepth 20000 in
theorem gq_X6_takeGroup_X6_refuse_48 : GoodIn wq_X6_takeGroup (wsV RX6 48 RX6 yX6_refuse wq_X6_refuse) := goodIn_app (goodIn_r _ [2, 3, 4, 5] rfl rfl) (goodIn_ca (goodIn_r _ [25, 26, 27] rfl rfl) gs_wq_X6_takeGroup_wsX60)
theorem gs_wq_X6_takeGroup_wsX50 : GoodIn wq_X6_takeGroup wsX50 := fun w h => ⟨List.mem_cons_of_mem _ (List.mem_append_left _ (List.mem_append_left _ (List.mem_append_right _ h))), (gt_wsX50 w h).2⟩
set_option maxRecDepth 20000 in
theorem gq_X6_takeGroup_X6_digitAt_97 : GoodIn wq_X6_takeGroup (wsV RX6 97 RX6 yX6_digitAt wq_X6_digitAt) := goodIn_app (goodIn_r _ [6, 7, 8, 5] rfl rfl) (goodIn_ca (goodIn_ca (goodIn_r _ [28, 29, 30, 31, 32, 33, 34, 35, 36] rfl rfl) gs_wq_X6_takeGroup_wsX60) gs_wq_X6_takeGroup_wsX50)
set_option maxRecDepth 20000 in
theorem gq_X6_takeGroup_X6_skipBlanks_39 : GoodIn wq_X6_takeGroup (wsV RX6 39 RX6 yX6_skipBlanks wq_X6_skipBlanks) := goodIn_app (goodIn_r _ [9, 10, 11, 5] rfl rfl) (goodIn_ca (goodIn_ca (goodIn_r _ [37, 1, 29, 38, 39, 40, 33, 30, 31, 32, 41, 42, 5, 43, 35, 34, 36, 44] rfl rfl) gs_wq_X6_takeGroup_wsX60) gs_wq_X6_takeGroup_wsX50)
set_option maxRecDepth 20000 in
theorem gq_X6_takeGroup_X6_isDigit_93 : GoodIn wq_X6_takeGroup (wsV RX6 93 RX6 yX6_isDigit wq_X6_isDigit) := goodIn_app (goodIn_r _ [12, 13, 14, 5] rfl rfl) (goodIn_ca (goodIn_ca (goodIn_r _ [45, 29, 30, 31, 32, 33, 34, 35, 36] rfl rfl) gs_wq_X6_takeGroup_wsX60) gs_wq_X6_takeGroup_wsX50)
theorem gs_wq_X6_takeGroup_wsJ00 : GoodIn wq_X6_takeGroup wsJ00 := fun w h => ⟨List.mem_cons_of_mem _ (List.mem_append_left _ (List.mem_append_right _ h)), (gt_wsJ00 w h).2⟩
set_option maxRecDepth 20000 in
theorem gq_X6_takeGroup_J0_equals_9ea2d_120 : GoodIn wq_X6_takeGroup (wsV RX6 120 RJ0 yJ0_equals_9ea2d wq_J0_equals_9ea2d) := goodIn_app (goodIn_r _ [15, 16, 17, 18] rfl rfl) (goodIn_ca (goodIn_r _ [46, 47, 48, 49, 50, 51, 52, 53, 54] rfl rfl) gs_wq_X6_takeGroup_wsJ00)
theorem gs_wq_X6_takeGroup_wsJ40 : GoodIn wq_X6_takeGroup wsJ40 := fun w h => ⟨List.mem_cons_of_mem _ (List.mem_append_right _ h), (gt_wsJ40 w h).2⟩
set_option maxRecDepth 20000 in
theorem gq_X6_takeGroup_X6_takeWord_111 : GoodIn wq_X6_takeGroup (wsV RX6 111 RX6 yX6_takeWord wq_X6_takeWord) := goodIn_app (goodIn_r _ [19, 20, 21, 5] rfl rfl) (goodIn_ca (goodIn_ca (goodIn_ca (goodIn_ca (goodIn_r _ [55, 56, 1, 29, 57, 58, 59, 60, 61, 62, 63, 64, 65, 66, 30, 31, 32, 33, 22, 23, 24, 5, 38, 39, 40, 67, 68, 69, 70, 71, 18, 72, 73, 74, 75, 76, 77, 78, 79, 80, 81, 49, 50, 82, 83, 84, 85, 86, 87, 88, 89, 90, 91, 92, 93, 94, 95, 96, 97, 98, 99, 100, 101, 102, 103, 104, 105, 106, 107, 108, 109, 110, 111, 112, 113, 114, 115, 116, 117, 118, 119, 120, 121, 122, 123, 124, 125, 126, 127, 128, 129, 130, 131, 132, 133, 134, 135, 136, 53, 137, 138, 139, 140, 141, 142, 143, 144, 145, 146, 147, 148, 149, 150, 151, 152, 153, 154, 155, 156, 157, 158, 159, 160, 34, 35, 36, 161, 43, 162, 163, 164, 165, 166, 167] rfl rfl) gs_wq_X6_takeGroup_wsX60) gs_wq_X6_takeGroup_wsJ00) gs_wq_X6_takeGroup_wsJ40) gs_wq_X6_takeGroup_wsX50)
set_option maxRecDepth 20000 in
theorem gq_X6_takeGroup_X6_isLetter_108 : GoodIn wq_X6_takeGroup (wsV RX6 108 RX6 yX6_isLetter wq_X6_isLetter) := goodIn_app (goodIn_r _ [22, 23, 24, 5] rfl rfl) (goodIn_ca (goodIn_ca (goodIn_r _ [161, 29, 30, 31, 32, 33, 34, 35, 36] rfl rfl) gs_wq_X6_takeGroup_wsX60) gs_wq_X6_takeGroup_wsX50)
set_option maxHeartbeats 4000000 in
set_option maxRecDepth 100000 in
theorem c_X6_takeGroup (l : Launch) (dC : Nat → ClassId) (dI : Nat → Nat → Nat) (ka ad : Nat → Nat) (ct : Nat → ClassId) (h0 : Nat) (p0 : Option Nat) (st st' : CS) (r : Int32) (hf : fX6_takeGroup h0 p0 st = some (r, st')) (sz : Nat) : Met l yX6_takeGroup wq_X6_takeGroup ({ frames := 7, cells := (qn st' - qn st), slots := (qs st' - qs st), locals := 201 }) (va_Pc [.ref (ad h0), va_rf (Option.map ad p0)] (PrC (dC, dI) ct ka ad st sz)) (va_Qi (fun r' (_ : Unit) => r' = r) (fun _ => CB (dC, dI) ct ka ad st' (aC ad st sz)) (aC ad st sz)) (qn st' - qn st) (qs st' - qs st) (aC ad st sz) := by
  refine Met.ofW (cc := cX6_takeGroup) (maxL := 4) (ret := (some .boolean)) (by decide) rfl ?_
  intro p e s m args below meth c s₁ B hml hv
  obtain ⟨rfl, hsz, hw0, hK, hN, hZ, hC, hR, hL, hw1, hw2⟩ := hv
  have hx := B.exec
  have hb := B.bytes
  have hr := B.returns
  have hts := atoms_spec (ws := wq_X6_takeGroup) B.pre
  have hown : s.vm.findClass RX6 = some m.cls := findClass_of_methodNamed B.named
  have iRX6 : ∀ w ∈ u_ws RX6 TX6 6, w ∈ wq_X6_takeGroup := fun w h => List.mem_cons_of_mem _ (List.mem_append_left _ (List.mem_append_left _ (List.mem_append_left _ (List.mem_append_left _ (List.mem_append_right _ h)))))
  have iRX0 : ∀ w ∈ u_ws RX0 TX0 7, w ∈ wq_X6_takeGroup := fun w h => List.mem_cons_of_mem _ (List.mem_append_left _ (List.mem_append_left _ (List.mem_append_left _ (List.mem_append_right _ h))))
  subst hsz
  have hp : Cp (dC, dI) ka ad ct (aC ad st s.heap.size) s.heap st s.heap [] := ⟨fun i a b => ⟨hw0 i a b, Or.inl ⟨i, a, b, rfl⟩⟩, va_S.rf, hw1, hw2⟩
  generalize hAe : aC ad st s.heap.size = A at hp hZ hC ⊢
  have hA : ∀ q : Nat, s.heap.size ≤ q → A q := fun q h => by rw [← hAe]; exact Or.inr h
  have hl := lv_entry ([.ref (ad h0), va_rf (Option.map ad p0)]) (n := 4) (by simp [lg_sl, rf_cat, vc_i, vc_l, vc_r, vc_n])
  rw [lg_entry_eq]
  generalize (lg_sl ([.ref (ad h0), va_rf (Option.map ad p0)]) ++ List.replicate (4 - (lg_sl ([.ref (ad h0), va_rf (Option.map ad p0)])).length) Slot.unset).toArray = ls at hl ⊢
  have hl : lv_has ls 4 [(0, .ref (ad h0)), (1, va_rf (Option.map ad p0))] := by simpa [lv_args, rf_cat, vc_i, vc_l, vc_r, vc_n] using hl
  have hm : Mo st st := Mo.rf
  refine W.widen (k := qn st - qn st) (n := qs st - qs st) (Nat.zero_le _) (Nat.zero_le _) ?_
  refine W_blkA (fun (u : Int32 × CS) H locs ls => match u with | (s0, gs) => fX6_takeGroup_94 h0 s0 gs = some (r, st') ∧ Cp (dC, dI) ka ad ct A s.heap gs H locs ∧ lv_has ls 4 [] ∧ Mo st gs) (fun (u : Int32 × CS) ls => match u with | (s0, gs) => F0 m 94 ls [.int s0]) (fun (u : Int32 × CS) => match u with | (s0, gs) => qn gs - qn st) (fun (u : Int32 × CS) => match u with | (s0, gs) => qs gs - qs st) ?_ (fun J94 => ?_)
  · intro u H locs ls hu
    obtain ⟨s0, gs⟩ := u
    obtain ⟨hf, hp, hl, hm⟩ := hu
    show W p l e _ s m _ below meth c _ _ (qn gs - qn st) (qs gs - qs st) _ (F0 m 94 ls [.int s0])
    unfold fX6_takeGroup_94 at hf
    obtain ⟨hz, hf⟩ := gd_some hf
    obtain ⟨e1, e2⟩ := pr_some hf
    refine W.widen (k := qn st' - qn st) (n := qs st' - qs st) (by rw [e2]; exact Nat.le_refl _) (by rw [e2]; exact Nat.le_refl _) ?_
    exact W.zret (v := s0) hx hb hr hz (fun t ht hW => ⟨⟨s0, (), rfl, e1, Cp.end e2 hp ht⟩, hp.2.1.F ht⟩) hp.2.1.2.2 dX6_takeGroup_94
  refine W_blkA (fun (gs : CS) H locs ls => fX6_takeGroup_85 h0 gs = some (r, st') ∧ Cp (dC, dI) ka ad ct A s.heap gs H locs ∧ lv_has ls 4 [(0, .ref (ad h0))] ∧ Mo st gs) (fun (gs : CS) ls => F0 m 85 ls []) (fun (gs : CS) => qn gs - qn st) (fun (gs : CS) => qs gs - qs st) ?_ (fun J85 => ?_)
  · intro u H locs ls hu
    obtain ⟨gs, rfl⟩ : ∃ z, z = u := ⟨_, rfl⟩
    obtain ⟨hf, hp, hl, hm⟩ := hu
    show W p l e _ s m _ below meth c _ _ (qn gs - qn st) (qs gs - qs st) _ (F0 m 85 ls [])
    unfold fX6_takeGroup_85 at hf
    refine lv_aload_n hx hb dX6_takeGroup_85 rfl (lv_at hl 0 rfl) ?_
    refine lv_iconst (v := 1) hx hb dX6_takeGroup_86 (by decide) ?_
    refine lv_aload_n hx hb dX6_takeGroup_87 rfl (lv_at hl 0 rfl) ?_
    obtain ⟨hk_1, hf⟩ := gd_some hf
    refine q_gi (ci := 8) (C := RX6) (T := TX6) (N := 6) (k := 3) hx hb hts iRX6 hown hK hp hk_1 (by decide) rfl rfl (by decide) rfl (Or.inl (hts (.fieldLink RX6 26 "RecordBench$TextReader" "pos" "I") (by decide +kernel))) (fun _ h9 => h9) dX6_takeGroup_88 ?_
    obtain ⟨r_4, st_2, hc_3, hf⟩ := bnd_some hf
    have hmc := (mo_X6_refuse h0 1 (qI gs h0 3) _ _ _ hc_3).mo
    have hmr := mo_X6_takeGroup_94 h0 _ _ _ _ hf
    refine q_ci hp hA (va_runV (As := [.int 1, .int (qI gs h0 3)]) (rest := []) ⟨hx, hb, hml, hown, hts⟩ (c_X6_refuse l dC dI ka ad ct h0 1 (qI gs h0 3) _ _ _ hc_3 _) (cwV 2 hts gq_X6_takeGroup_X6_refuse_48 rfl rfl rfl (by decide +kernel) ⟨Nat.le_of_ble_eq_true rfl, Nat.le_of_ble_eq_true rfl⟩) ⟨PrC.blind _, q_rv8 hK hp hC hk_1, q_pre hp hK hN hZ hC hR hL hA⟩ rfl rfl hl.1 rfl (lv_room (Nat.le_of_ble_eq_true rfl)) dX6_takeGroup_91 ⟨by show qn gs - qn st + 0 ≤ qn st' - qn st; have := hmr.1; have := hm.1; have := hmc.1; omega, by show qs gs - qs st + 0 ≤ qs st' - qs st; have := hmr.2.1; have := hm.2.1; have := hmc.2.1; omega⟩) (fun H locs hp => ?_)
    have hk_1 : qk st_2 h0 = 9 := by rw [(mo_X6_refuse h0 1 (qI gs h0 3) _ _ _ hc_3).2.2.1]; exact hk_1
    refine W.widen (k := qn st_2 - qn st) (n := qs st_2 - qs st) (by have := hmc.1; omega) (by have := hmc.2.1; omega) ?_
    have hm := hm.tr hmc
    exact J94 (r_4, st_2) _ _ _ ⟨hf, hp, (lv_sub hl [] rfl), hm⟩
  refine W_blkA (fun (u : (Option Nat) × Int32 × CS) H locs ls => match u with | (l1, s0, gs) => fX6_takeGroup_74 h0 l1 s0 gs = some (r, st') ∧ Cp (dC, dI) ka ad ct A s.heap gs H locs ∧ lv_has ls 4 [(0, .ref (ad h0)), (1, va_rf (Option.map ad l1))] ∧ Mo st gs) (fun (u : (Option Nat) × Int32 × CS) ls => match u with | (l1, s0, gs) => F0 m 74 ls [.int s0]) (fun (u : (Option Nat) × Int32 × CS) => match u with | (l1, s0, gs) => qn gs - qn st) (fun (u : (Option Nat) × Int32 × CS) => match u with | (l1, s0, gs) => qs gs - qs st) ?_ (fun J74 => ?_)
  · intro u H locs ls hu
    obtain ⟨l1, s0, gs⟩ := u
    obtain ⟨hf, hp, hl, hm⟩ := hu
    show W p l e _ s m _ below meth c _ _ (qn gs - qn st) (qs gs - qs st) _ (F0 m 74 ls [.int s0])
    unfold fX6_takeGroup_74 at hf
    refine lv_istore_n (i := 3) (lv' := [(3, .int s0), (0, .ref (ad h0)), (1, va_rf (Option.map ad l1))]) hx hb dX6_takeGroup_74 rfl hl (by decide) rfl (fun ls hl => ?_)
    refine lv_iload_n hx hb dX6_takeGroup_75 rfl (lv_at hl 0 rfl) ?_
    refine lv_iconst (v := 1) hx hb dX6_takeGroup_76 (by decide) ?_
    refine lv_icmp_lt (tgt := 85) hx hb dX6_takeGroup_77 (by decide) (fun c_5 => ?_) (fun c_5 => ?_)
    · have hf := pif_t c_5 hf
      exact J85 gs _ _ _ ⟨hf, hp, (lv_sub hl [1] rfl), hm⟩
    · have hf := pif_f c_5 hf
      refine lv_iload_n hx hb dX6_takeGroup_80 rfl (lv_at hl 0 rfl) ?_
      refine lv_iconst (v := 3) hx hb dX6_takeGroup_81 (by decide) ?_
      refine lv_icmp_le (tgt := 95) hx hb dX6_takeGroup_82 (by decide) (fun c_6 => ?_) (fun c_6 => ?_)
      · have hf := pif_t c_6 hf
        refine o_aload_n hx hb dX6_takeGroup_95 rfl (lv_at hl 2 rfl) ?_
        refine lv_iload_n hx hb dX6_takeGroup_96 rfl (lv_at hl 0 rfl) ?_
        obtain ⟨a_7, ha_8, hf⟩ := ono_some hf
        refine o_at1 ha_8 ?_
        obtain ⟨hk_9, hf⟩ := gd_some hf
        refine q_pi (ci := 2) (C := RX0) (T := TX0) (N := 7) (k := 2) (v := s0) (ty := .int) hx hb hts iRX0 tyX0 tyX0_ok nmX0 hown hK hp hk_9 (by decide) rfl rfl (by decide) rfl (Or.inr ⟨_, va_Nw.use rfl (hN.1 (.fieldLinkNest RX6 147 "RecordBench$Field" "group" "I" "RecordBench") (by decide +kernel))⟩) (fun _ h9 => h9) rfl (by decide +kernel) rfl rfl dX6_takeGroup_97 (fun H locs hp => ?_)
        obtain ⟨st_10, est_10, hf⟩ := nam_some hf
        rw [← est_10] at hp
        have hm := hm.wI est_10
        refine W.widen (k := qn st_10 - qn st) (n := qs st_10 - qs st) (by rw [est_10]; exact Nat.le_refl _) (by rw [est_10]; exact Nat.le_refl _) ?_
        have hk_9 : qk st_10 a_7 = 3 := by rw [est_10]; exact hk_9
        refine lv_aload_n hx hb dX6_takeGroup_100 rfl (lv_at hl 1 rfl) ?_
        refine lv_dup hx hb dX6_takeGroup_101 rfl ?_
        obtain ⟨hk_11, hf⟩ := gd_some hf
        refine q_gi (ci := 8) (C := RX6) (T := TX6) (N := 6) (k := 3) hx hb hts iRX6 hown hK hp hk_11 (by decide) rfl rfl (by decide) rfl (Or.inl (hts (.fieldLink RX6 26 "RecordBench$TextReader" "pos" "I") (by decide +kernel))) (fun _ h9 => h9) dX6_takeGroup_102 ?_
        refine lv_iconst (v := 1) hx hb dX6_takeGroup_105 (by decide) ?_
        refine lv_iadd hx hb dX6_takeGroup_106 ?_
        refine q_pi (ci := 8) (C := RX6) (T := TX6) (N := 6) (k := 3) (v := (qI st_10 h0 3) + 1) (ty := .int) hx hb hts iRX6 tyX6 tyX6_ok nmX6 hown hK hp hk_11 (by decide) rfl rfl (by decide) rfl (Or.inl (hts (.fieldLink RX6 26 "RecordBench$TextReader" "pos" "I") (by decide +kernel))) (fun _ h9 => h9) rfl (by decide +kernel) rfl rfl dX6_takeGroup_107 (fun H locs hp => ?_)
        obtain ⟨st_12, est_12, hf⟩ := nam_some hf
        rw [← est_12] at hp
        have hm := hm.wI est_12
        refine W.widen (k := qn st_12 - qn st) (n := qs st_12 - qs st) (by rw [est_12]; exact Nat.le_refl _) (by rw [est_12]; exact Nat.le_refl _) ?_
        have hk_9 : qk st_12 a_7 = 3 := by rw [est_12]; exact hk_9
        have hk_11 : qk st_12 h0 = 9 := by rw [est_12]; exact hk_11
        refine lv_iconst (v := 1) hx hb dX6_takeGroup_110 (by decide) ?_
        obtain ⟨e1, e2⟩ := pr_some hf
        refine W.widen (k := qn st' - qn st) (n := qs st' - qs st) (by rw [e2]; exact Nat.le_refl _) (by rw [e2]; exact Nat.le_refl _) ?_
        exact W.zret (v := 1) hx hb hr rfl (fun t ht hW => ⟨⟨1, (), rfl, e1, Cp.end e2 hp ht⟩, hp.2.1.F ht⟩) hp.2.1.2.2 dX6_takeGroup_111
      · have hf := pif_f c_6 hf
        exact J85 gs _ _ _ ⟨hf, hp, (lv_sub hl [1] rfl), hm⟩
  refine W_blkA (fun (u : (Option Nat) × CS) H locs ls => match u with | (l1, gs) => fX6_takeGroup_66 h0 l1 gs = some (r, st') ∧ Cp (dC, dI) ka ad ct A s.heap gs H locs ∧ lv_has ls 4 [(0, .ref (ad h0)), (1, va_rf (Option.map ad l1))] ∧ Mo st gs) (fun (u : (Option Nat) × CS) ls => match u with | (l1, gs) => F0 m 66 ls []) (fun (u : (Option Nat) × CS) => match u with | (l1, gs) => qn gs - qn st) (fun (u : (Option Nat) × CS) => match u with | (l1, gs) => qs gs - qs st) ?_ (fun J66 => ?_)
  · intro u H locs ls hu
    obtain ⟨l1, gs⟩ := u
    obtain ⟨hf, hp, hl, hm⟩ := hu
    show W p l e _ s m _ below meth c _ _ (qn gs - qn st) (qs gs - qs st) _ (F0 m 66 ls [])
    unfold fX6_takeGroup_66 at hf
    refine lv_aload_n hx hb dX6_takeGroup_66 rfl (lv_at hl 0 rfl) ?_
    refine lv_aload_n hx hb dX6_takeGroup_67 rfl (lv_at hl 0 rfl) ?_
    obtain ⟨hk_13, hf⟩ := gd_some hf
    refine q_gi (ci := 8) (C := RX6) (T := TX6) (N := 6) (k := 3) hx hb hts iRX6 hown hK hp hk_13 (by decide) rfl rfl (by decide) rfl (Or.inl (hts (.fieldLink RX6 26 "RecordBench$TextReader" "pos" "I") (by decide +kernel))) (fun _ h9 => h9) dX6_takeGroup_68 ?_
    obtain ⟨r_16, st_14, hc_15, hf⟩ := bnd_some hf
    have hmc := (mo_X6_digitAt h0 (qI gs h0 3) _ _ _ hc_15).mo
    have hmr := mo_X6_takeGroup_74 h0 _ _ _ _ _ hf
    refine q_ci hp hA (va_runV (As := [.int (qI gs h0 3)]) (rest := []) ⟨hx, hb, hml, hown, hts⟩ (c_X6_digitAt l dC dI ka ad ct h0 (qI gs h0 3) _ _ _ hc_15 _) (cwV 1 hts gq_X6_takeGroup_X6_digitAt_97 rfl rfl rfl (by decide +kernel) ⟨Nat.le_of_ble_eq_true rfl, Nat.le_of_ble_eq_true rfl⟩) ⟨PrC.blind _, q_rv8 hK hp hC hk_13, q_pre hp hK hN hZ hC hR hL hA⟩ rfl rfl hl.1 rfl (lv_room (Nat.le_of_ble_eq_true rfl)) dX6_takeGroup_71 ⟨by show qn gs - qn st + 0 ≤ qn st' - qn st; have := hmr.1; have := hm.1; have := hmc.1; omega, by show qs gs - qs st + 0 ≤ qs st' - qs st; have := hmr.2.1; have := hm.2.1; have := hmc.2.1; omega⟩) (fun H locs hp => ?_)
    have hk_13 : qk st_14 h0 = 9 := by rw [(mo_X6_digitAt h0 (qI gs h0 3) _ _ _ hc_15).2.2.1]; exact hk_13
    refine W.widen (k := qn st_14 - qn st) (n := qs st_14 - qs st) (by have := hmc.1; omega) (by have := hmc.2.1; omega) ?_
    have hm := hm.tr hmc
    exact J74 (l1, r_16, st_14) _ _ _ ⟨hf, hp, (lv_sub hl [0, 1] rfl), hm⟩
  refine W_blkA (fun (u : Int32 × CS) H locs ls => match u with | (s0, gs) => fX6_takeGroup_61 h0 s0 gs = some (r, st') ∧ Cp (dC, dI) ka ad ct A s.heap gs H locs ∧ lv_has ls 4 [] ∧ Mo st gs) (fun (u : Int32 × CS) ls => match u with | (s0, gs) => F0 m 61 ls [.int s0]) (fun (u : Int32 × CS) => match u with | (s0, gs) => qn gs - qn st) (fun (u : Int32 × CS) => match u with | (s0, gs) => qs gs - qs st) ?_ (fun J61 => ?_)
  · intro u H locs ls hu
    obtain ⟨s0, gs⟩ := u
    obtain ⟨hf, hp, hl, hm⟩ := hu
    show W p l e _ s m _ below meth c _ _ (qn gs - qn st) (qs gs - qs st) _ (F0 m 61 ls [.int s0])
    unfold fX6_takeGroup_61 at hf
    obtain ⟨hz, hf⟩ := gd_some hf
    obtain ⟨e1, e2⟩ := pr_some hf
    refine W.widen (k := qn st' - qn st) (n := qs st' - qs st) (by rw [e2]; exact Nat.le_refl _) (by rw [e2]; exact Nat.le_refl _) ?_
    exact W.zret (v := s0) hx hb hr hz (fun t ht hW => ⟨⟨s0, (), rfl, e1, Cp.end e2 hp ht⟩, hp.2.1.F ht⟩) hp.2.1.2.2 dX6_takeGroup_61
  refine W_blkA (fun (u : (Option Nat) × Int32 × CS) H locs ls => match u with | (l1, s0, gs) => fX6_takeGroup_49 h0 l1 s0 gs = some (r, st') ∧ Cp (dC, dI) ka ad ct A s.heap gs H locs ∧ lv_has ls 4 [(0, .ref (ad h0)), (1, va_rf (Option.map ad l1))] ∧ Mo st gs) (fun (u : (Option Nat) × Int32 × CS) ls => match u with | (l1, s0, gs) => F0 m 49 ls [.int s0]) (fun (u : (Option Nat) × Int32 × CS) => match u with | (l1, s0, gs) => qn gs - qn st) (fun (u : (Option Nat) × Int32 × CS) => match u with | (l1, s0, gs) => qs gs - qs st) ?_ (fun J49 => ?_)
  · intro u H locs ls hu
    obtain ⟨l1, s0, gs⟩ := u
    obtain ⟨hf, hp, hl, hm⟩ := hu
    show W p l e _ s m _ below meth c _ _ (qn gs - qn st) (qs gs - qs st) _ (F0 m 49 ls [.int s0])
    unfold fX6_takeGroup_49 at hf
    refine lv_if_eq (tgt := 62) hx hb dX6_takeGroup_49 (by decide) (fun c_17 => ?_) (fun c_17 => ?_)
    · have hf := pif_t c_17 hf
      refine lv_aload_n hx hb dX6_takeGroup_62 rfl (lv_at hl 0 rfl) ?_
      obtain ⟨hk_18, hf⟩ := gd_some hf
      obtain ⟨st_19, hc_20, hf⟩ := bnv_some hf
      have hmc := (mo_X6_skipBlanks h0 _ _ hc_20).mo
      have hmr := mo_X6_takeGroup_66 h0 _ _ _ _ hf
      refine q_cv hp hA (va_runV (As := []) (rest := []) ⟨hx, hb, hml, hown, hts⟩ (c_X6_skipBlanks l dC dI ka ad ct h0 _ _ hc_20 _) (cwV 0 hts gq_X6_takeGroup_X6_skipBlanks_39 rfl rfl rfl (by decide +kernel) ⟨Nat.le_of_ble_eq_true rfl, Nat.le_of_ble_eq_true rfl⟩) ⟨PrC.blind _, q_rv8 hK hp hC hk_18, q_pre hp hK hN hZ hC hR hL hA⟩ rfl rfl hl.1 rfl (lv_room (Nat.le_of_ble_eq_true rfl)) dX6_takeGroup_63 ⟨by show qn gs - qn st + 0 ≤ qn st' - qn st; have := hmr.1; have := hm.1; have := hmc.1; omega, by show qs gs - qs st + 0 ≤ qs st' - qs st; have := hmr.2.1; have := hm.2.1; have := hmc.2.1; omega⟩) (fun H locs hp => ?_)
      have hk_18 : qk st_19 h0 = 9 := by rw [(mo_X6_skipBlanks h0 _ _ hc_20).2.2.1]; exact hk_18
      refine W.widen (k := qn st_19 - qn st) (n := qs st_19 - qs st) (by have := hmc.1; omega) (by have := hmc.2.1; omega) ?_
      have hm := hm.tr hmc
      exact J66 (l1, st_19) _ _ _ ⟨hf, hp, (lv_sub hl [0, 1] rfl), hm⟩
    · have hf := pif_f c_17 hf
      refine lv_aload_n hx hb dX6_takeGroup_52 rfl (lv_at hl 0 rfl) ?_
      refine lv_iconst (v := 1) hx hb dX6_takeGroup_53 (by decide) ?_
      refine lv_aload_n hx hb dX6_takeGroup_54 rfl (lv_at hl 0 rfl) ?_
      obtain ⟨hk_22, hf⟩ := gd_some hf
      refine q_gi (ci := 8) (C := RX6) (T := TX6) (N := 6) (k := 3) hx hb hts iRX6 hown hK hp hk_22 (by decide) rfl rfl (by decide) rfl (Or.inl (hts (.fieldLink RX6 26 "RecordBench$TextReader" "pos" "I") (by decide +kernel))) (fun _ h9 => h9) dX6_takeGroup_55 ?_
      obtain ⟨r_25, st_23, hc_24, hf⟩ := bnd_some hf
      have hmc := (mo_X6_refuse h0 1 (qI gs h0 3) _ _ _ hc_24).mo
      have hmr := mo_X6_takeGroup_61 h0 _ _ _ _ hf
      refine q_ci hp hA (va_runV (As := [.int 1, .int (qI gs h0 3)]) (rest := []) ⟨hx, hb, hml, hown, hts⟩ (c_X6_refuse l dC dI ka ad ct h0 1 (qI gs h0 3) _ _ _ hc_24 _) (cwV 2 hts gq_X6_takeGroup_X6_refuse_48 rfl rfl rfl (by decide +kernel) ⟨Nat.le_of_ble_eq_true rfl, Nat.le_of_ble_eq_true rfl⟩) ⟨PrC.blind _, q_rv8 hK hp hC hk_22, q_pre hp hK hN hZ hC hR hL hA⟩ rfl rfl hl.1 rfl (lv_room (Nat.le_of_ble_eq_true rfl)) dX6_takeGroup_58 ⟨by show qn gs - qn st + 0 ≤ qn st' - qn st; have := hmr.1; have := hm.1; have := hmc.1; omega, by show qs gs - qs st + 0 ≤ qs st' - qs st; have := hmr.2.1; have := hm.2.1; have := hmc.2.1; omega⟩) (fun H locs hp => ?_)
      have hk_22 : qk st_23 h0 = 9 := by rw [(mo_X6_refuse h0 1 (qI gs h0 3) _ _ _ hc_24).2.2.1]; exact hk_22
      refine W.widen (k := qn st_23 - qn st) (n := qs st_23 - qs st) (by have := hmc.1; omega) (by have := hmc.2.1; omega) ?_
      have hm := hm.tr hmc
      exact J61 (r_25, st_23) _ _ _ ⟨hf, hp, (lv_sub hl [] rfl), hm⟩
  refine W_blkA (fun (u : Int32 × CS) H locs ls => match u with | (s0, gs) => fX6_takeGroup_40 h0 s0 gs = some (r, st') ∧ Cp (dC, dI) ka ad ct A s.heap gs H locs ∧ lv_has ls 4 [] ∧ Mo st gs) (fun (u : Int32 × CS) ls => match u with | (s0, gs) => F0 m 40 ls [.int s0]) (fun (u : Int32 × CS) => match u with | (s0, gs) => qn gs - qn st) (fun (u : Int32 × CS) => match u with | (s0, gs) => qs gs - qs st) ?_ (fun J40 => ?_)
  · intro u H locs ls hu
    obtain ⟨s0, gs⟩ := u
    obtain ⟨hf, hp, hl, hm⟩ := hu
    show W p l e _ s m _ below meth c _ _ (qn gs - qn st) (qs gs - qs st) _ (F0 m 40 ls [.int s0])
    unfold fX6_takeGroup_40 at hf
    obtain ⟨hz, hf⟩ := gd_some hf
    obtain ⟨e1, e2⟩ := pr_some hf
    refine W.widen (k := qn st' - qn st) (n := qs st' - qs st) (by rw [e2]; exact Nat.le_refl _) (by rw [e2]; exact Nat.le_refl _) ?_
    exact W.zret (v := s0) hx hb hr hz (fun t ht hW => ⟨⟨s0, (), rfl, e1, Cp.end e2 hp ht⟩, hp.2.1.F ht⟩) hp.2.1.2.2 dX6_takeGroup_40
  refine W_blkA (fun (u : (Option Nat) × Int32 × Int32 × CS) H locs ls => match u with | (l1, l2, s0, gs) => fX6_takeGroup_31 h0 l1 l2 s0 gs = some (r, st') ∧ Cp (dC, dI) ka ad ct A s.heap gs H locs ∧ lv_has ls 4 [(0, .ref (ad h0)), (1, va_rf (Option.map ad l1)), (2, .int l2)] ∧ Mo st gs) (fun (u : (Option Nat) × Int32 × Int32 × CS) ls => match u with | (l1, l2, s0, gs) => F0 m 31 ls [.int s0]) (fun (u : (Option Nat) × Int32 × Int32 × CS) => match u with | (l1, l2, s0, gs) => qn gs - qn st) (fun (u : (Option Nat) × Int32 × Int32 × CS) => match u with | (l1, l2, s0, gs) => qs gs - qs st) ?_ (fun J31 => ?_)
  · intro u H locs ls hu
    obtain ⟨l1, l2, s0, gs⟩ := u
    obtain ⟨hf, hp, hl, hm⟩ := hu
    show W p l e _ s m _ below meth c _ _ (qn gs - qn st) (qs gs - qs st) _ (F0 m 31 ls [.int s0])
    unfold fX6_takeGroup_31 at hf
    refine lv_if_ne (tgt := 41) hx hb dX6_takeGroup_31 (by decide) (fun c_26 => ?_) (fun c_26 => ?_)
    · have hf := pif_f c_26 hf
      refine lv_aload_n hx hb dX6_takeGroup_41 rfl (lv_at hl 0 rfl) ?_
      refine lv_aload_n hx hb dX6_takeGroup_42 rfl (lv_at hl 0 rfl) ?_
      obtain ⟨hk_27, hf⟩ := gd_some hf
      refine q_gi (ci := 8) (C := RX6) (T := TX6) (N := 6) (k := 3) hx hb hts iRX6 hown hK hp hk_27 (by decide) rfl rfl (by decide) rfl (Or.inl (hts (.fieldLink RX6 26 "RecordBench$TextReader" "pos" "I") (by decide +kernel))) (fun _ h9 => h9) dX6_takeGroup_43 ?_
      obtain ⟨r_30, st_28, hc_29, hf⟩ := bnd_some hf
      have hmc := (mo_X6_isDigit h0 (qI gs h0 3) _ _ _ hc_29).mo
      have hmr := mo_X6_takeGroup_49 h0 _ _ _ _ _ hf
      refine q_ci hp hA (va_runV (As := [.int (qI gs h0 3)]) (rest := []) ⟨hx, hb, hml, hown, hts⟩ (c_X6_isDigit l dC dI ka ad ct h0 (qI gs h0 3) _ _ _ hc_29 _) (cwV 1 hts gq_X6_takeGroup_X6_isDigit_93 rfl rfl rfl (by decide +kernel) ⟨Nat.le_of_ble_eq_true rfl, Nat.le_of_ble_eq_true rfl⟩) ⟨PrC.blind _, q_rv8 hK hp hC hk_27, q_pre hp hK hN hZ hC hR hL hA⟩ rfl rfl hl.1 rfl (lv_room (Nat.le_of_ble_eq_true rfl)) dX6_takeGroup_46 ⟨by show qn gs - qn st + 0 ≤ qn st' - qn st; have := hmr.1; have := hm.1; have := hmc.1; omega, by show qs gs - qs st + 0 ≤ qs st' - qs st; have := hmr.2.1; have := hm.2.1; have := hmc.2.1; omega⟩) (fun H locs hp => ?_)
      have hk_27 : qk st_28 h0 = 9 := by rw [(mo_X6_isDigit h0 (qI gs h0 3) _ _ _ hc_29).2.2.1]; exact hk_27
      refine W.widen (k := qn st_28 - qn st) (n := qs st_28 - qs st) (by have := hmc.1; omega) (by have := hmc.2.1; omega) ?_
      have hm := hm.tr hmc
      exact J49 (l1, r_30, st_28) _ _ _ ⟨hf, hp, (lv_sub hl [0, 1] rfl), hm⟩
    · have hf := pif_t c_26 hf
      refine lv_aload_n hx hb dX6_takeGroup_34 rfl (lv_at hl 0 rfl) ?_
      refine lv_iconst (v := 1) hx hb dX6_takeGroup_35 (by decide) ?_
      refine lv_iload_n hx hb dX6_takeGroup_36 rfl (lv_at hl 2 rfl) ?_
      obtain ⟨hk_31, hf⟩ := gd_some hf
      obtain ⟨r_34, st_32, hc_33, hf⟩ := bnd_some hf
      have hmc := (mo_X6_refuse h0 1 l2 _ _ _ hc_33).mo
      have hmr := mo_X6_takeGroup_40 h0 _ _ _ _ hf
      refine q_ci hp hA (va_runV (As := [.int 1, .int l2]) (rest := []) ⟨hx, hb, hml, hown, hts⟩ (c_X6_refuse l dC dI ka ad ct h0 1 l2 _ _ _ hc_33 _) (cwV 2 hts gq_X6_takeGroup_X6_refuse_48 rfl rfl rfl (by decide +kernel) ⟨Nat.le_of_ble_eq_true rfl, Nat.le_of_ble_eq_true rfl⟩) ⟨PrC.blind _, q_rv8 hK hp hC hk_31, q_pre hp hK hN hZ hC hR hL hA⟩ rfl rfl hl.1 rfl (lv_room (Nat.le_of_ble_eq_true rfl)) dX6_takeGroup_37 ⟨by show qn gs - qn st + 0 ≤ qn st' - qn st; have := hmr.1; have := hm.1; have := hmc.1; omega, by show qs gs - qs st + 0 ≤ qs st' - qs st; have := hmr.2.1; have := hm.2.1; have := hmc.2.1; omega⟩) (fun H locs hp => ?_)
      have hk_31 : qk st_32 h0 = 9 := by rw [(mo_X6_refuse h0 1 l2 _ _ _ hc_33).2.2.1]; exact hk_31
      refine W.widen (k := qn st_32 - qn st) (n := qs st_32 - qs st) (by have := hmc.1; omega) (by have := hmc.2.1; omega) ?_
      have hm := hm.tr hmc
      exact J40 (r_34, st_32) _ _ _ ⟨hf, hp, (lv_sub hl [] rfl), hm⟩
  refine W_blkA (fun (u : (Option Nat) × Int32 × (Option Nat) × CS) H locs ls => match u with | (l1, l2, s0, gs) => fX6_takeGroup_26 h0 l1 l2 s0 gs = some (r, st') ∧ Cp (dC, dI) ka ad ct A s.heap gs H locs ∧ lv_has ls 4 [(0, .ref (ad h0)), (1, va_rf (Option.map ad l1)), (2, .int l2)] ∧ Mo st gs) (fun (u : (Option Nat) × Int32 × (Option Nat) × CS) ls => match u with | (l1, l2, s0, gs) => F0 m 26 ls [va_rf (Option.map ad s0)]) (fun (u : (Option Nat) × Int32 × (Option Nat) × CS) => match u with | (l1, l2, s0, gs) => qn gs - qn st) (fun (u : (Option Nat) × Int32 × (Option Nat) × CS) => match u with | (l1, l2, s0, gs) => qs gs - qs st) ?_ (fun J26 => ?_)
  · intro u H locs ls hu
    obtain ⟨l1, l2, s0, gs⟩ := u
    obtain ⟨hf, hp, hl, hm⟩ := hu
    show W p l e _ s m _ below meth c _ _ (qn gs - qn st) (qs gs - qs st) _ (F0 m 26 ls [va_rf (Option.map ad s0)])
    unfold fX6_takeGroup_26 at hf
    refine q_ldc (i := 8) hx hb hown (hR (RX6, 145, "in", 8) (by decide +kernel)) hp (by decide) dX6_takeGroup_26 ?_
    obtain ⟨a_35, ha_36, hf⟩ := ono_some hf
    refine o_at1 ha_36 ?_
    obtain ⟨hk_37, hf⟩ := gd_some hf
    obtain ⟨r_40, st_38, hc_39, hf⟩ := bnd_some hf
    have hmc := (mo_J0_equals_9ea2d a_35 (some 8) _ _ _ hc_39).mo
    have hmr := mo_X6_takeGroup_31 h0 _ _ _ _ _ _ hf
    refine q_ci hp hA (va_runV (As := [.ref (ad 8)]) (rest := []) ⟨hx, hb, hml, hown, hts⟩ (c_J0_equals_9ea2d l dC dI ka ad ct a_35 (some 8) _ _ _ hc_39 _) (cwV 1 hts gq_X6_takeGroup_J0_equals_9ea2d_120 rfl rfl rfl (by decide +kernel) ⟨Nat.le_of_ble_eq_true rfl, Nat.le_of_ble_eq_true rfl⟩) ⟨PrC.blind _, q_recv (ci := 0) hK hp hC hk_37 (by decide) rfl (fun _ => rfl), q_pre hp hK hN hZ hC hR hL hA⟩ rfl rfl hl.1 rfl (lv_room (Nat.le_of_ble_eq_true rfl)) dX6_takeGroup_28 ⟨by show qn gs - qn st + 0 ≤ qn st' - qn st; have := hmr.1; have := hm.1; have := hmc.1; omega, by show qs gs - qs st + 0 ≤ qs st' - qs st; have := hmr.2.1; have := hm.2.1; have := hmc.2.1; omega⟩) (fun H locs hp => ?_)
    have hk_37 : qk st_38 a_35 = 1 := by rw [(mo_J0_equals_9ea2d a_35 (some 8) _ _ _ hc_39).2.2.1]; exact hk_37
    refine W.widen (k := qn st_38 - qn st) (n := qs st_38 - qs st) (by have := hmc.1; omega) (by have := hmc.2.1; omega) ?_
    have hm := hm.tr hmc
    exact J31 (l1, l2, r_40, st_38) _ _ _ ⟨hf, hp, (lv_sub hl [0, 1, 2] rfl), hm⟩
  refine W_blkA (fun (u : (Option Nat) × Int32 × CS) H locs ls => match u with | (l1, s0, gs) => fX6_takeGroup_12 h0 l1 s0 gs = some (r, st') ∧ Cp (dC, dI) ka ad ct A s.heap gs H locs ∧ lv_has ls 4 [(0, .ref (ad h0)), (1, va_rf (Option.map ad l1))] ∧ Mo st gs) (fun (u : (Option Nat) × Int32 × CS) ls => match u with | (l1, s0, gs) => F0 m 12 ls [.int s0]) (fun (u : (Option Nat) × Int32 × CS) => match u with | (l1, s0, gs) => qn gs - qn st) (fun (u : (Option Nat) × Int32 × CS) => match u with | (l1, s0, gs) => qs gs - qs st) ?_ (fun J12 => ?_)
  · intro u H locs ls hu
    obtain ⟨l1, s0, gs⟩ := u
    obtain ⟨hf, hp, hl, hm⟩ := hu
    show W p l e _ s m _ below meth c _ _ (qn gs - qn st) (qs gs - qs st) _ (F0 m 12 ls [.int s0])
    unfold fX6_takeGroup_12 at hf
    refine lv_if_ne (tgt := 17) hx hb dX6_takeGroup_12 (by decide) (fun c_41 => ?_) (fun c_41 => ?_)
    · have hf := pif_f c_41 hf
      refine lv_aload_n hx hb dX6_takeGroup_17 rfl (lv_at hl 0 rfl) ?_
      obtain ⟨hk_42, hf⟩ := gd_some hf
      refine q_gi (ci := 8) (C := RX6) (T := TX6) (N := 6) (k := 3) hx hb hts iRX6 hown hK hp hk_42 (by decide) rfl rfl (by decide) rfl (Or.inl (hts (.fieldLink RX6 26 "RecordBench$TextReader" "pos" "I") (by decide +kernel))) (fun _ h9 => h9) dX6_takeGroup_18 ?_
      obtain ⟨v_43, ev_43, hf⟩ := nam_some hf
      refine W_toi (y := v_43) ev_43.symm ?_
      refine lv_istore_n (i := 2) (lv' := [(2, .int v_43), (0, .ref (ad h0)), (1, va_rf (Option.map ad l1))]) hx hb dX6_takeGroup_21 rfl hl (by decide) (by simp [rf_cat, vc_i, vc_l, vc_r, vc_n]) (fun ls hl => ?_)
      refine lv_aload_n hx hb dX6_takeGroup_22 rfl (lv_at hl 1 rfl) ?_
      obtain ⟨r_46, st_44, hc_45, hf⟩ := bnd_some hf
      have lthk_42 := hp.2.2.1.lt (i := h0) (by rw [hk_42]; decide)
      have hmc := (mo_X6_takeWord h0 _ _ _ hc_45)
      have hmr := mo_X6_takeGroup_26 h0 _ _ _ _ _ _ hf
      refine q_cq hp hA (va_runV (As := []) (rest := []) ⟨hx, hb, hml, hown, hts⟩ (c_X6_takeWord l dC dI ka ad ct h0 _ _ _ hc_45 _) (cwV 0 hts gq_X6_takeGroup_X6_takeWord_111 rfl rfl rfl (by decide +kernel) ⟨Nat.le_of_ble_eq_true rfl, Nat.le_of_ble_eq_true rfl⟩) ⟨PrC.blind _, q_rv8 hK hp hC hk_42, q_pre hp hK hN hZ hC hR hL hA⟩ rfl rfl hl.1 rfl (lv_room (Nat.le_of_ble_eq_true rfl)) dX6_takeGroup_23 ⟨by show qn gs - qn st + (qn st_44 - qn gs) ≤ qn st' - qn st; have := hmr.1; have := hm.1; have := hmc.1; omega, by show qs gs - qs st + (qs st_44 - qs gs) ≤ qs st' - qs st; have := hmr.2.1; have := hm.2.1; have := hmc.2.1; omega⟩) (fun H locs hp => ?_)
      have hk_42 : qk st_44 h0 = 9 := ((mo_X6_takeWord h0 _ _ _ hc_45).2.2 _ lthk_42).1.trans hk_42
      refine W.widen (k := qn st_44 - qn st) (n := qs st_44 - qs st) (by have := hm.1; have := hmc.1; omega) (by have := hm.2.1; have := hmc.2.1; omega) ?_
      have hm := hm.tr hmc
      exact J26 (l1, v_43, r_46, st_44) _ _ _ ⟨hf, hp, (lv_sub hl [1, 2, 0] rfl), hm⟩
    · have hf := pif_t c_41 hf
      refine lv_iconst (v := 1) hx hb dX6_takeGroup_15 (by decide) ?_
      obtain ⟨e1, e2⟩ := pr_some hf
      refine W.widen (k := qn st' - qn st) (n := qs st' - qs st) (by rw [e2]; exact Nat.le_refl _) (by rw [e2]; exact Nat.le_refl _) ?_
      exact W.zret (v := 1) hx hb hr rfl (fun t ht hW => ⟨⟨1, (), rfl, e1, Cp.end e2 hp ht⟩, hp.2.1.F ht⟩) hp.2.1.2.2 dX6_takeGroup_16
  refine W_blkA (fun (u : (Option Nat) × CS) H locs ls => match u with | (l1, gs) => fX6_takeGroup_4 h0 l1 gs = some (r, st') ∧ Cp (dC, dI) ka ad ct A s.heap gs H locs ∧ lv_has ls 4 [(0, .ref (ad h0)), (1, va_rf (Option.map ad l1))] ∧ Mo st gs) (fun (u : (Option Nat) × CS) ls => match u with | (l1, gs) => F0 m 4 ls []) (fun (u : (Option Nat) × CS) => match u with | (l1, gs) => qn gs - qn st) (fun (u : (Option Nat) × CS) => match u with | (l1, gs) => qs gs - qs st) ?_ (fun J4 => ?_)
  · intro u H locs ls hu
    obtain ⟨l1, gs⟩ := u
    obtain ⟨hf, hp, hl, hm⟩ := hu
    show W p l e _ s m _ below meth c _ _ (qn gs - qn st) (qs gs - qs st) _ (F0 m 4 ls [])
    unfold fX6_takeGroup_4 at hf
    refine lv_aload_n hx hb dX6_takeGroup_4 rfl (lv_at hl 0 rfl) ?_
    refine lv_aload_n hx hb dX6_takeGroup_5 rfl (lv_at hl 0 rfl) ?_
    obtain ⟨hk_47, hf⟩ := gd_some hf
    refine q_gi (ci := 8) (C := RX6) (T := TX6) (N := 6) (k := 3) hx hb hts iRX6 hown hK hp hk_47 (by decide) rfl rfl (by decide) rfl (Or.inl (hts (.fieldLink RX6 26 "RecordBench$TextReader" "pos" "I") (by decide +kernel))) (fun _ h9 => h9) dX6_takeGroup_6 ?_
    obtain ⟨r_50, st_48, hc_49, hf⟩ := bnd_some hf
    have hmc := (mo_X6_isLetter h0 (qI gs h0 3) _ _ _ hc_49).mo
    have hmr := mo_X6_takeGroup_12 h0 _ _ _ _ _ hf
    refine q_ci hp hA (va_runV (As := [.int (qI gs h0 3)]) (rest := []) ⟨hx, hb, hml, hown, hts⟩ (c_X6_isLetter l dC dI ka ad ct h0 (qI gs h0 3) _ _ _ hc_49 _) (cwV 1 hts gq_X6_takeGroup_X6_isLetter_108 rfl rfl rfl (by decide +kernel) ⟨Nat.le_of_ble_eq_true rfl, Nat.le_of_ble_eq_true rfl⟩) ⟨PrC.blind _, q_rv8 hK hp hC hk_47, q_pre hp hK hN hZ hC hR hL hA⟩ rfl rfl hl.1 rfl (lv_room (Nat.le_of_ble_eq_true rfl)) dX6_takeGroup_9 ⟨by show qn gs - qn st + 0 ≤ qn st' - qn st; have := hmr.1; have := hm.1; have := hmc.1; omega, by show qs gs - qs st + 0 ≤ qs st' - qs st; have := hmr.2.1; have := hm.2.1; have := hmc.2.1; omega⟩) (fun H locs hp => ?_)
    have hk_47 : qk st_48 h0 = 9 := by rw [(mo_X6_isLetter h0 (qI gs h0 3) _ _ _ hc_49).2.2.1]; exact hk_47
    refine W.widen (k := qn st_48 - qn st) (n := qs st_48 - qs st) (by have := hmc.1; omega) (by have := hmc.2.1; omega) ?_
    have hm := hm.tr hmc
    exact J12 (l1, r_50, st_48) _ _ _ ⟨hf, hp, (lv_sub hl [0, 1] rfl), hm⟩
  unfold fX6_takeGroup at hf
  refine lv_aload_n hx hb dX6_takeGroup_0 rfl (lv_at hl 0 rfl) ?_
  obtain ⟨hk_51, hf⟩ := gd_some hf
  obtain ⟨st_52, hc_53, hf⟩ := bnv_some hf
  have hmc := (mo_X6_skipBlanks h0 _ _ hc_53).mo
  have hmr := mo_X6_takeGroup_4 h0 _ _ _ _ hf
  refine q_cv hp hA (va_runV (As := []) (rest := []) ⟨hx, hb, hml, hown, hts⟩ (c_X6_skipBlanks l dC dI ka ad ct h0 _ _ hc_53 _) (cwV 0 hts gq_X6_takeGroup_X6_skipBlanks_39 rfl rfl rfl (by decide +kernel) ⟨Nat.le_of_ble_eq_true rfl, Nat.le_of_ble_eq_true rfl⟩) ⟨PrC.blind _, q_rv8 hK hp hC hk_51, q_pre hp hK hN hZ hC hR hL hA⟩ rfl rfl hl.1 rfl (lv_room (Nat.le_of_ble_eq_true rfl)) dX6_takeGroup_1 ⟨by show qn st - qn st + 0 ≤ qn st' - qn st; have := hmr.1; have := hm.1; have := hmc.1; omega, by show qs st - qs st + 0 ≤ qs st' - qs st; have := hmr.2.1; have := hm.2.1; have := hmc.2.1; omega⟩) (fun H locs hp => ?_)
  have hk_51 : qk st_52 h0 = 9 := by rw [(mo_X6_skipBlanks h0 _ _ hc_53).2.2.1]; exact hk_51
  refine W.widen (k := qn st_52 - qn st) (n := qs st_52 - qs st) (by have := hmc.1; omega) (by have := hmc.2.1; omega) ?_
  have hm := hm.tr hmc
  exact J4 (p0, st_52) _ _ _ ⟨hf, hp, (lv_sub hl [0, 1] rfl), hm⟩
noncomputable def fX6_takeDefault_66 (h0 : Nat)  (s0 : Int32) (gs : CS) : Option (Int32 × CS) := gd (narrow .boolean (.int s0) = .int s0) (some (s0, gs))
set_option maxHeartbeats 1000000 in
theorem mo_X6_takeDefault_66 (h0 : Nat)   (s0 : Int32) (gs : CS) (r : Int32) (st' : CS) (hf : fX6_takeDefault_66 h0 s0 gs = some (r, st')) : Mo gs st' := by
  unfold fX6_takeDefault_66 at hf
  have hm : Mo gs gs := Mo.rf
  obtain ⟨hz, hf⟩ := gd_some hf
  obtain ⟨e1, e2⟩ := pr_some hf
  exact e2 ▸ hm
noncomputable def fX6_takeDefault_58 (h0 : Nat)  (s0 : Int32) (gs : CS) : Option (Int32 × CS) := fX6_takeDefault_66 h0 s0 gs
set_option maxHeartbeats 1000000 in
theorem mo_X6_takeDefault_58 (h0 : Nat)   (s0 : Int32) (gs : CS) (r : Int32) (st' : CS) (hf : fX6_takeDefault_58 h0 s0 gs = some (r, st')) : Mo gs st' := by
  unfold fX6_takeDefault_58 at hf
  have hm : Mo gs gs := Mo.rf
  exact hm.tr (mo_X6_takeDefault_66 h0 s0 gs _ _ hf)
noncomputable def fX6_takeDefault_45 (h0 : Nat)  (l1 : Option Nat) (gs : CS) : Option (Int32 × CS) := ono l1 (fun a_1 => gd (qk gs a_1 = 3) (pif ((qI gs a_1 1) = 5) (gd (qk gs h0 = 9) (bnd (fX6_takeText h0 l1 gs) (fun r_12 st_10 => fX6_takeDefault_58 h0 r_12 st_10))) (gd (qk gs h0 = 9) (bnd (fX6_takeValue h0 l1 gs) (fun r_8 st_6 => fX6_takeDefault_66 h0 r_8 st_6)))))
set_option maxHeartbeats 1000000 in
theorem mo_X6_takeDefault_45 (h0 : Nat)   (l1 : Option Nat) (gs : CS) (r : Int32) (st' : CS) (hf : fX6_takeDefault_45 h0 l1 gs = some (r, st')) : Mo gs st' := by
  unfold fX6_takeDefault_45 at hf
  have hm : Mo gs gs := Mo.rf
  obtain ⟨a_1, ha_2, hf⟩ := ono_some hf
  obtain ⟨hk_3, hf⟩ := gd_some hf
  rcases pif_or hf with ⟨c_4, hf⟩ | ⟨c_4, hf⟩
  · obtain ⟨hk_9, hf⟩ := gd_some hf
    obtain ⟨r_12, st_10, hc_11, hf⟩ := bnd_some hf
    have hm := hm.tr (mo_X6_takeText h0 l1 _ _ _ hc_11)
    exact hm.tr (mo_X6_takeDefault_58 h0 r_12 st_10 _ _ hf)
  · obtain ⟨hk_5, hf⟩ := gd_some hf
    obtain ⟨r_8, st_6, hc_7, hf⟩ := bnd_some hf
    have hm := hm.ke (mo_X6_takeValue h0 l1 _ _ _ hc_7)
    exact hm.tr (mo_X6_takeDefault_66 h0 r_8 st_6 _ _ hf)
noncomputable def fX6_takeDefault_15 (h0 : Nat)  (l1 : Option Nat) (s0 : Int32) (gs : CS) : Option (Int32 × CS) := pif (s0 = 61) (ono l1 (fun a_14 => gd (qk gs a_14 = 3) (pif ((qI gs a_14 1) = 6) (some ((1 : Int32), gs)) (gd (qk gs h0 = 9) (nam (wI gs h0 3 ((qI gs h0 3) + 1)) (fun st_19 => bnv (fX6_skipBlanks h0 st_19) (fun st_20 => fX6_takeDefault_45 h0 l1 st_20))))))) (some ((1 : Int32), gs))
set_option maxHeartbeats 1000000 in
theorem mo_X6_takeDefault_15 (h0 : Nat)   (l1 : Option Nat) (s0 : Int32) (gs : CS) (r : Int32) (st' : CS) (hf : fX6_takeDefault_15 h0 l1 s0 gs = some (r, st')) : Mo gs st' := by
  unfold fX6_takeDefault_15 at hf
  have hm : Mo gs gs := Mo.rf
  rcases pif_or hf with ⟨c_13, hf⟩ | ⟨c_13, hf⟩
  · obtain ⟨a_14, ha_15, hf⟩ := ono_some hf
    obtain ⟨hk_16, hf⟩ := gd_some hf
    rcases pif_or hf with ⟨c_17, hf⟩ | ⟨c_17, hf⟩
    · obtain ⟨e1, e2⟩ := pr_some hf
      exact e2 ▸ hm
    · obtain ⟨hk_18, hf⟩ := gd_some hf
      obtain ⟨st_19, est_19, hf⟩ := nam_some hf
      have hm := hm.wI est_19
      obtain ⟨st_20, hc_21, hf⟩ := bnv_some hf
      have hm := hm.ke (mo_X6_skipBlanks h0 _ _ hc_21)
      exact hm.tr (mo_X6_takeDefault_45 h0 l1 st_20 _ _ hf)
  · obtain ⟨e1, e2⟩ := pr_some hf
    exact e2 ▸ hm
noncomputable def fX6_takeDefault_4 (h0 : Nat)  (l1 : Option Nat) (gs : CS) : Option (Int32 × CS) := gd (qk gs h0 = 9) (ono (qP gs h0 0) (fun a_24 => gd (qk gs a_24 = 8) (bnd (fX5_byteAt a_24 (qI gs h0 3) gs) (fun r_29 st_27 => fX6_takeDefault_15 h0 l1 r_29 st_27))))
set_option maxHeartbeats 1000000 in
theorem mo_X6_takeDefault_4 (h0 : Nat)   (l1 : Option Nat) (gs : CS) (r : Int32) (st' : CS) (hf : fX6_takeDefault_4 h0 l1 gs = some (r, st')) : Mo gs st' := by
  unfold fX6_takeDefault_4 at hf
  have hm : Mo gs gs := Mo.rf
  obtain ⟨hk_23, hf⟩ := gd_some hf
  obtain ⟨a_24, ha_25, hf⟩ := ono_some hf
  obtain ⟨hk_26, hf⟩ := gd_some hf
  obtain ⟨r_29, st_27, hc_28, hf⟩ := bnd_some hf
  have hm := hm.ke (mo_X5_byteAt a_24 (qI gs h0 3) _ _ _ hc_28)
  exact hm.tr (mo_X6_takeDefault_15 h0 l1 r_29 st_27 _ _ hf)
noncomputable def fX6_takeDefault (h0 : Nat) (p0 : Option Nat) (st : CS) : Option (Int32 × CS) := gd (qk st h0 = 9) (bnv (fX6_skipBlanks h0 st) (fun st_31 => fX6_takeDefault_4 h0 p0 st_31))
set_option maxHeartbeats 1000000 in
theorem mo_X6_takeDefault (h0 : Nat) (p0 : Option Nat) (st : CS) (r : Int32) (st' : CS) (hf : fX6_takeDefault h0 p0 st = some (r, st')) : Mo st st' := by
  unfold fX6_takeDefault at hf
  have hm : Mo st st := Mo.rf
  obtain ⟨hk_30, hf⟩ := gd_some hf
  obtain ⟨st_31, hc_32, hf⟩ := bnv_some hf
  have hm := hm.ke (mo_X6_skipBlanks h0 _ _ hc_32)
  exact hm.tr (mo_X6_takeDefault_4 h0 p0 st_31 _ _ hf)
def wq_X6_takeDefault : List Cond := .code yX6_takeDefault cX6_takeDefault 2 (some .boolean) :: (([.fieldLink RX6 9 "RecordBench$TextReader" "tape" "LRecordBench$Row;", .fieldLink RX6 26 "RecordBench$TextReader" "pos" "I", .methodLink RX6 156 yX6_takeValue, .instanceMethod yX6_takeValue, .selects RX6 yX6_takeValue yX6_takeValue, .initialized RX6, .methodLink RX6 153 yX6_takeText, .instanceMethod yX6_takeText, .selects RX6 yX6_takeText yX6_takeText, .methodLink RX6 39 yX6_skipBlanks, .instanceMethod yX6_skipBlanks, .selects RX6 yX6_skipBlanks yX6_skipBlanks, .methodLink RX6 150 yX5_byteAt, .instanceMethod yX5_byteAt, .selects RX5 yX5_byteAt yX5_byteAt, .initialized RX5, .code yX6_takeValue cX6_takeValue 10 (some .boolean), .constantLong RX6 159 (10), .constantLong RX6 161 (-9223372036854775808), .methodLink RX6 48 yX6_refuse, .instanceMethod yX6_refuse, .selects RX6 yX6_refuse yX6_refuse, .methodLink RX6 163 yX0_holds, .instanceMethod yX0_holds, .selects RX0 yX0_holds yX0_holds, .initialized RX0, .methodLink RX6 93 yX6_isDigit, .instanceMethod yX6_isDigit, .selects RX6 yX6_isDigit yX6_isDigit, .methodLink RX6 97 yX6_digitAt, .instanceMethod yX6_digitAt, .selects RX6 yX6_digitAt yX6_digitAt, .code yX6_refuse cX6_refuse 3 (some .boolean), .fieldLink RX6 30 "RecordBench$TextReader" "fault" "I", .fieldLink RX6 33 "RecordBench$TextReader" "place" "I", .code yX0_holds cX0_holds 3 (some .boolean), .fieldLink RX0 15 "RecordBench$Field" "kind" "I", .constantLong RX0 37 (-128), .constantLong RX0 39 (127), .constantLong RX0 41 (-2147483648), .constantLong RX0 43 (2147483647), .code yX6_isDigit cX6_isDigit 3 (some .boolean), .code yX5_byteAt cX5_byteAt 2 (some .int), .fieldLink RX5 21 "RecordBench$Row" "size" "I", .fieldLink RX5 15 "RecordBench$Row" "bytes" "[I", .code yX6_digitAt cX6_digitAt 3 (some .int), .code yX6_takeText cX6_takeText 3 (some .boolean), .fieldLink RX6 22 "RecordBench$TextReader" "letters" "Ljava/lang/StringBuilder;", .methodLink RX6 182 yJ4_toString_0e30d, .instanceMethod yJ4_toString_0e30d, .selects RJ4 yJ4_toString_0e30d yJ4_toString_0e30d, .initialized RJ4, .methodLink RX6 178 yJ4_append_cf468, .instanceMethod yJ4_append_cf468, .selects RJ4 yJ4_append_cf468 yJ4_append_cf468, .methodLink RX6 175 yX6_isQuotable, .static yX6_isQuotable, .methodLink RX6 171 yJ4_setLength_d00df, .instanceMethod yJ4_setLength_d00df, .selects RJ4 yJ4_setLength_d00df yJ4_setLength_d00df, .code yJ4_toString_0e30d cJ4_toString_0e30d 1 (some (.object "java/lang/String")), .instanceMethod yJ0_init_81219, .initialized RJ0, .methodLink RJ4 137 yJ0_init_81219, .classLink RJ4 18 RJ0, .instantiable RJ0 4, .code yJ0_init_81219 cJ0_init_81219 2 none, .instanceMethod yJ0_init_db425, .methodLink RJ0 489 yJ0_init_db425, .code yJ0_init_db425 cJ0_init_db425 5 none, .methodLink RJ0 1 objectInit, .instanceMethod objectInit, .code objectInit ⟨#[0xb1]⟩ 1 none, .fieldLink RJ0 15 "java/lang/String" "coder" "B", .fieldLink RJ0 9 "java/lang/String" "value" "[B", .methodLink RJ0 54 yJ7_copyOfRange_39247, .static yJ7_copyOfRange_39247, .initialized RJ7, .methodLink RJ0 1047 ⟨"java/lang/AbstractStringBuilder", "isLatin1", "()Z"⟩, .sameMethod "java/lang/AbstractStringBuilder" "java/lang/AbstractStringBuilder" "isLatin1" "()Z", .selects RJ4 ⟨"java/lang/AbstractStringBuilder", "isLatin1", "()Z"⟩ yJ5_isLatin1_aae02, .instanceMethod yJ5_isLatin1_aae02, .initialized RJ5, .methodLink RJ0 549 ⟨"java/lang/AbstractStringBuilder", "length", "()I"⟩, .sameMethod "java/lang/AbstractStringBuilder" "java/lang/AbstractStringBuilder" "length" "()I", .instanceMethod yJ5_length_8abf5, .selects RJ4 ⟨"java/lang/AbstractStringBuilder", "length", "()I"⟩ yJ4_length_8abf5, .instanceMethod yJ4_length_8abf5, .methodLink RJ0 552 ⟨"java/lang/AbstractStringBuilder", "getValue", "()[B"⟩, .sameMethod "java/lang/AbstractStringBuilder" "java/lang/AbstractStringBuilder" "getValue" "()[B", .selects RJ4 ⟨"java/lang/AbstractStringBuilder", "getValue", "()[B"⟩ yJ5_getValue_6d5f1, .instanceMethod yJ5_getValue_6d5f1, .code yJ7_copyOfRange_39247 cJ7_copyOfRange_39247 3 (some (.array .byte)), .classLink RJ7 311 "[B", .methodLink RJ7 339 yJ7_copyOfRangeByte_39247, .static yJ7_copyOfRangeByte_39247, .methodLink RJ7 310 ⟨"[B", "clone", "()Ljava/lang/Object;"⟩, .sameMethod "[B" "java/lang/Object" "clone" "()Ljava/lang/Object;", .native ⟨"java/lang/Object", "clone", "()Ljava/lang/Object;"⟩, .instanceMethod ⟨"java/lang/Object", "clone", "()Ljava/lang/Object;"⟩, .selects "[B" ⟨"[B", "clone", "()Ljava/lang/Object;"⟩ ⟨"java/lang/Object", "clone", "()Ljava/lang/Object;"⟩, .code yJ7_copyOfRangeByte_39247 cJ7_copyOfRangeByte_39247 5 (some (.array .byte)), .methodLink RJ7 304 Lib.Math.min.name, .static Lib.Math.min.name, .initialized "java/lang/Math", .code Lib.Math.min.name Lib.Math.min.code 2 (some .int), .methodLink RJ7 150 arraycopyName, .native arraycopyName, .static arraycopyName, .initialized "java/lang/System", .arrayClass .byte, .methodLink RJ7 343 yJ7_checkLength_df160, .static yJ7_checkLength_df160, .code yJ7_checkLength_df160 cJ7_checkLength_df160 2 none, .code yJ5_isLatin1_aae02 cJ5_isLatin1_aae02 1 (some .boolean), .fieldLink RJ5 18 "java/lang/String" "COMPACT_STRINGS" "Z", .fieldLink RJ5 22 "java/lang/AbstractStringBuilder" "coder" "B", .code yJ4_length_8abf5 cJ4_length_8abf5 1 (some .int), .methodLink RJ4 343 yJ5_length_8abf5, .superclass RJ4 RJ5, .code yJ5_length_8abf5 cJ5_length_8abf5 1 (some .int), .fieldLink RJ5 79 "java/lang/AbstractStringBuilder" "count" "I", .code yJ5_getValue_6d5f1 cJ5_getValue_6d5f1 1 (some (.array .byte)), .fieldLink RJ5 15 "java/lang/AbstractStringBuilder" "value" "[B", .code yJ4_append_cf468 cJ4_append_cf468 2 (some (.object "java/lang/StringBuilder")), .methodLink RJ4 50 yJ5_append_3fe6f, .sameMethod "java/lang/AbstractStringBuilder" "java/lang/AbstractStringBuilder" "append" "(C)Ljava/lang/AbstractStringBuilder;", .instanceMethod yJ5_append_3fe6f, .code yJ5_append_3fe6f cJ5_append_3fe6f 2 (some (.object "java/lang/AbstractStringBuilder")), .methodLink RJ5 191 yJ1_canEncode_fc78d, .static yJ1_canEncode_fc78d, .initialized RJ1, .methodLink RJ5 83 ⟨"java/lang/AbstractStringBuilder", "isLatin1", "()Z"⟩, .methodLink RJ5 100 ⟨"java/lang/AbstractStringBuilder", "ensureCapacityInternal", "(I)V"⟩, .sameMethod "java/lang/AbstractStringBuilder" "java/lang/AbstractStringBuilder" "ensureCapacityInternal" "(I)V", .selects RJ4 ⟨"java/lang/AbstractStringBuilder", "ensureCapacityInternal", "(I)V"⟩ yJ5_ensureCapacityInternal_d00df, .instanceMethod yJ5_ensureCapacityInternal_d00df, .code yJ1_canEncode_fc78d cJ1_canEncode_fc78d 1 (some .boolean), .code yJ5_ensureCapacityInternal_d00df cJ5_ensureCapacityInternal_d00df 3 none, .methodLink RJ5 108 yJ7_copyOf_9075b, .static yJ7_copyOf_9075b, .methodLink RJ5 104 ⟨"java/lang/AbstractStringBuilder", "newCapacity", "(I)I"⟩, .sameMethod "java/lang/AbstractStringBuilder" "java/lang/AbstractStringBuilder" "newCapacity" "(I)I", .selects RJ4 ⟨"java/lang/AbstractStringBuilder", "newCapacity", "(I)I"⟩ yJ5_newCapacity_0f7a4, .instanceMethod yJ5_newCapacity_0f7a4, .code yJ7_copyOf_9075b cJ7_copyOf_9075b 3 (some (.array .byte)), .code yJ5_newCapacity_0f7a4 cJ5_newCapacity_0f7a4 6 (some .int), .constant RJ5 39 (2147483647), .methodLink RJ5 114 yJ8_newLength_cabcc, .static yJ8_newLength_cabcc, .initialized RJ8, .code yJ8_newLength_cabcc cJ8_newLength_cabcc 4 (some .int), .methodLink RJ8 194 Lib.Math.max.name, .static Lib.Math.max.name, .code Lib.Math.max.name Lib.Math.max.code 2 (some .int), .constant RJ8 200 (2147483639), .code yX6_isQuotable cX6_isQuotable 1 (some .boolean), .methodLink RX6 192 yX5_isTextByte, .static yX5_isTextByte, .code yX5_isTextByte cX5_isTextByte 1 (some .boolean), .code yJ4_setLength_d00df cJ4_setLength_d00df 2 none, .methodLink RJ4 333 yJ5_setLength_d00df, .sameMethod "java/lang/AbstractStringBuilder" "java/lang/AbstractStringBuilder" "setLength" "(I)V", .instanceMethod yJ5_setLength_d00df, .code yJ5_setLength_d00df cJ5_setLength_d00df 2 none, .fieldLink RJ5 73 "java/lang/AbstractStringBuilder" "maybeLatin1" "Z", .code yX6_skipBlanks cX6_skipBlanks 3 none, .methodLink RX6 42 yX5_size, .instanceMethod yX5_size, .selects RX5 yX5_size yX5_size, .methodLink RX6 189 yX6_isBlank, .static yX6_isBlank, .code yX5_size cX5_size 1 (some .int), .code yX6_isBlank cX6_isBlank 1 (some .boolean)] : List Cond) ++ wsX60 ++ wsX00 ++ wsX50 ++ wsJ00 ++ wsJ40)
theorem gs_wq_X6_takeDefault_wsX60 : GoodIn wq_X6_takeDefault wsX60 := fun w h => ⟨List.mem_cons_of_mem _ (List.mem_append_left _ (List.mem_append_left _ (List.mem_append_left _ (List.mem_append_left _ (List.mem_append_right _ h))))), (gt_wsX60 w h).2⟩
theorem gs_wq_X6_takeDefault_wsX00 : GoodIn wq_X6_takeDefault wsX00 := fun w h => ⟨List.mem_cons_of_mem _ (List.mem_append_left _ (List.mem_append_left _ (List.mem_append_left _ (List.mem_append_right _ h)))), (gt_wsX00 w h).2⟩
theorem gs_wq_X6_takeDefault_wsX50 : GoodIn wq_X6_takeDefault wsX50 := fun w h => ⟨List.mem_cons_of_mem _ (List.mem_append_left _ (List.mem_append_left _ (List.mem_append_right _ h))), (gt_wsX50 w h).2⟩
set_option maxRecDepth 20000 in
theorem gq_X6_takeDefault_X6_takeValue_156 : GoodIn wq_X6_takeDefault (wsV RX6 156 RX6 yX6_takeValue wq_X6_takeValue) := goodIn_app (goodIn_r _ [3, 4, 5, 6] rfl rfl) (goodIn_ca (goodIn_ca (goodIn_ca (goodIn_r _ [17, 2, 1, 18, 19, 20, 21, 22, 6, 23, 24, 25, 26, 27, 28, 29, 30, 31, 32, 13, 14, 15, 16, 33, 34, 35, 36, 37, 38, 39, 40, 41, 42, 43, 44, 45, 46] rfl rfl) gs_wq_X6_takeDefault_wsX60) gs_wq_X6_takeDefault_wsX00) gs_wq_X6_takeDefault_wsX50)
theorem gs_wq_X6_takeDefault_wsJ00 : GoodIn wq_X6_takeDefault wsJ00 := fun w h => ⟨List.mem_cons_of_mem _ (List.mem_append_left _ (List.mem_append_right _ h)), (gt_wsJ00 w h).2⟩
theorem gs_wq_X6_takeDefault_wsJ40 : GoodIn wq_X6_takeDefault wsJ40 := fun w h => ⟨List.mem_cons_of_mem _ (List.mem_append_right _ h), (gt_wsJ40 w h).2⟩
set_option maxRecDepth 20000 in
theorem gq_X6_takeDefault_X6_takeText_153 : GoodIn wq_X6_takeDefault (wsV RX6 153 RX6 yX6_takeText wq_X6_takeText) := goodIn_app (goodIn_r _ [7, 8, 9, 6] rfl rfl) (goodIn_ca (goodIn_ca (goodIn_ca (goodIn_ca (goodIn_ca (goodIn_r _ [47, 1, 2, 48, 49, 50, 51, 52, 20, 21, 22, 6, 13, 14, 15, 16, 53, 54, 55, 56, 57, 58, 59, 60, 61, 62, 63, 64, 65, 66, 67, 68, 69, 70, 71, 72, 73, 74, 75, 76, 77, 78, 79, 80, 81, 82, 83, 84, 85, 86, 87, 88, 89, 90, 91, 92, 93, 94, 95, 96, 97, 98, 99, 100, 101, 102, 103, 104, 105, 106, 107, 108, 109, 110, 111, 112, 113, 114, 115, 116, 117, 118, 119, 120, 121, 122, 123, 124, 33, 34, 35, 43, 44, 45, 125, 126, 127, 128, 129, 130, 131, 132, 133, 134, 135, 136, 137, 138, 139, 140, 141, 142, 143, 144, 145, 146, 147, 148, 149, 150, 151, 152, 153, 154, 155, 156, 157, 158, 159, 160, 161, 162, 163, 164, 165, 166] rfl rfl) gs_wq_X6_takeDefault_wsX60) gs_wq_X6_takeDefault_wsX00) gs_wq_X6_takeDefault_wsJ00) gs_wq_X6_takeDefault_wsJ40) gs_wq_X6_takeDefault_wsX50)
set_option maxRecDepth 20000 in
theorem gq_X6_takeDefault_X6_skipBlanks_39 : GoodIn wq_X6_takeDefault (wsV RX6 39 RX6 yX6_skipBlanks wq_X6_skipBlanks) := goodIn_app (goodIn_r _ [10, 11, 12, 6] rfl rfl) (goodIn_ca (goodIn_ca (goodIn_r _ [167, 2, 1, 168, 169, 170, 16, 13, 14, 15, 171, 172, 6, 173, 44, 43, 45, 174] rfl rfl) gs_wq_X6_takeDefault_wsX60) gs_wq_X6_takeDefault_wsX50)
set_option maxRecDepth 20000 in
theorem gq_X6_takeDefault_X5_byteAt_150 : GoodIn wq_X6_takeDefault (wsV RX6 150 RX5 yX5_byteAt wq_X5_byteAt) := goodIn_app (goodIn_r _ [13, 14, 15, 16] rfl rfl) (goodIn_ca (goodIn_r _ [43, 44, 45] rfl rfl) gs_wq_X6_takeDefault_wsX50)
set_option maxHeartbeats 4000000 in
set_option maxRecDepth 100000 in
theorem c_X6_takeDefault (l : Launch) (dC : Nat → ClassId) (dI : Nat → Nat → Nat) (ka ad : Nat → Nat) (ct : Nat → ClassId) (h0 : Nat) (p0 : Option Nat) (st st' : CS) (r : Int32) (hf : fX6_takeDefault h0 p0 st = some (r, st')) (sz : Nat) : Met l yX6_takeDefault wq_X6_takeDefault ({ frames := 7, cells := (qn st' - qn st), slots := (qs st' - qs st), locals := 202 }) (va_Pc [.ref (ad h0), va_rf (Option.map ad p0)] (PrC (dC, dI) ct ka ad st sz)) (va_Qi (fun r' (_ : Unit) => r' = r) (fun _ => CB (dC, dI) ct ka ad st' (aC ad st sz)) (aC ad st sz)) (qn st' - qn st) (qs st' - qs st) (aC ad st sz) := by
  refine Met.ofW (cc := cX6_takeDefault) (maxL := 2) (ret := (some .boolean)) (by decide) rfl ?_
  intro p e s m args below meth c s₁ B hml hv
  obtain ⟨rfl, hsz, hw0, hK, hN, hZ, hC, hR, hL, hw1, hw2⟩ := hv
  have hx := B.exec
  have hb := B.bytes
  have hr := B.returns
  have hts := atoms_spec (ws := wq_X6_takeDefault) B.pre
  have hown : s.vm.findClass RX6 = some m.cls := findClass_of_methodNamed B.named
  have iRX6 : ∀ w ∈ u_ws RX6 TX6 6, w ∈ wq_X6_takeDefault := fun w h => List.mem_cons_of_mem _ (List.mem_append_left _ (List.mem_append_left _ (List.mem_append_left _ (List.mem_append_left _ (List.mem_append_right _ h)))))
  have iRX0 : ∀ w ∈ u_ws RX0 TX0 7, w ∈ wq_X6_takeDefault := fun w h => List.mem_cons_of_mem _ (List.mem_append_left _ (List.mem_append_left _ (List.mem_append_left _ (List.mem_append_right _ h))))
  subst hsz
  have hp : Cp (dC, dI) ka ad ct (aC ad st s.heap.size) s.heap st s.heap [] := ⟨fun i a b => ⟨hw0 i a b, Or.inl ⟨i, a, b, rfl⟩⟩, va_S.rf, hw1, hw2⟩
  generalize hAe : aC ad st s.heap.size = A at hp hZ hC ⊢
  have hA : ∀ q : Nat, s.heap.size ≤ q → A q := fun q h => by rw [← hAe]; exact Or.inr h
  have hl := lv_entry ([.ref (ad h0), va_rf (Option.map ad p0)]) (n := 2) (by simp [lg_sl, rf_cat, vc_i, vc_l, vc_r, vc_n])
  rw [lg_entry_eq]
  generalize (lg_sl ([.ref (ad h0), va_rf (Option.map ad p0)]) ++ List.replicate (2 - (lg_sl ([.ref (ad h0), va_rf (Option.map ad p0)])).length) Slot.unset).toArray = ls at hl ⊢
  have hl : lv_has ls 2 [(0, .ref (ad h0)), (1, va_rf (Option.map ad p0))] := by simpa [lv_args, rf_cat, vc_i, vc_l, vc_r, vc_n] using hl
  have hm : Mo st st := Mo.rf
  refine W.widen (k := qn st - qn st) (n := qs st - qs st) (Nat.zero_le _) (Nat.zero_le _) ?_
  refine W_blkA (fun (u : Int32 × CS) H locs ls => match u with | (s0, gs) => fX6_takeDefault_66 h0 s0 gs = some (r, st') ∧ Cp (dC, dI) ka ad ct A s.heap gs H locs ∧ lv_has ls 2 [] ∧ Mo st gs) (fun (u : Int32 × CS) ls => match u with | (s0, gs) => F0 m 66 ls [.int s0]) (fun (u : Int32 × CS) => match u with | (s0, gs) => qn gs - qn st) (fun (u : Int32 × CS) => match u with | (s0, gs) => qs gs - qs st) ?_ (fun J66 => ?_)
  · intro u H locs ls hu
    obtain ⟨s0, gs⟩ := u
    obtain ⟨hf, hp, hl, hm⟩ := hu
    show W p l e _ s m _ below meth c _ _ (qn gs - qn st) (qs gs - qs st) _ (F0 m 66 ls [.int s0])
    unfold fX6_takeDefault_66 at hf
    obtain ⟨hz, hf⟩ := gd_some hf
    obtain ⟨e1, e2⟩ := pr_some hf
    refine W.widen (k := qn st' - qn st) (n := qs st' - qs st) (by rw [e2]; exact Nat.le_refl _) (by rw [e2]; exact Nat.le_refl _) ?_
    exact W.zret (v := s0) hx hb hr hz (fun t ht hW => ⟨⟨s0, (), rfl, e1, Cp.end e2 hp ht⟩, hp.2.1.F ht⟩) hp.2.1.2.2 dX6_takeDefault_66
  refine W_blkA (fun (u : Int32 × CS) H locs ls => match u with | (s0, gs) => fX6_takeDefault_58 h0 s0 gs = some (r, st') ∧ Cp (dC, dI) ka ad ct A s.heap gs H locs ∧ lv_has ls 2 [] ∧ Mo st gs) (fun (u : Int32 × CS) ls => match u with | (s0, gs) => F0 m 58 ls [.int s0]) (fun (u : Int32 × CS) => match u with | (s0, gs) => qn gs - qn st) (fun (u : Int32 × CS) => match u with | (s0, gs) => qs gs - qs st) ?_ (fun J58 => ?_)
  · intro u H locs ls hu
    obtain ⟨s0, gs⟩ := u
    obtain ⟨hf, hp, hl, hm⟩ := hu
    show W p l e _ s m _ below meth c _ _ (qn gs - qn st) (qs gs - qs st) _ (F0 m 58 ls [.int s0])
    unfold fX6_takeDefault_58 at hf
    refine lv_goto (tgt := 66) hx hb dX6_takeDefault_58 (by decide) ?_
    exact J66 (s0, gs) _ _ _ ⟨hf, hp, (lv_sub hl [] rfl), hm⟩
  refine W_blkA (fun (u : (Option Nat) × CS) H locs ls => match u with | (l1, gs) => fX6_takeDefault_45 h0 l1 gs = some (r, st') ∧ Cp (dC, dI) ka ad ct A s.heap gs H locs ∧ lv_has ls 2 [(0, .ref (ad h0)), (1, va_rf (Option.map ad l1))] ∧ Mo st gs) (fun (u : (Option Nat) × CS) ls => match u with | (l1, gs) => F0 m 45 ls []) (fun (u : (Option Nat) × CS) => match u with | (l1, gs) => qn gs - qn st) (fun (u : (Option Nat) × CS) => match u with | (l1, gs) => qs gs - qs st) ?_ (fun J45 => ?_)
  · intro u H locs ls hu
    obtain ⟨l1, gs⟩ := u
    obtain ⟨hf, hp, hl, hm⟩ := hu
    show W p l e _ s m _ below meth c _ _ (qn gs - qn st) (qs gs - qs st) _ (F0 m 45 ls [])
    unfold fX6_takeDefault_45 at hf
    refine o_aload_n hx hb dX6_takeDefault_45 rfl (lv_at hl 1 rfl) ?_
    obtain ⟨a_1, ha_2, hf⟩ := ono_some hf
    refine o_at ha_2 ?_
    obtain ⟨hk_3, hf⟩ := gd_some hf
    refine q_gi (ci := 2) (C := RX0) (T := TX0) (N := 7) (k := 1) hx hb hts iRX0 hown hK hp hk_3 (by decide) rfl rfl (by decide) rfl (Or.inr ⟨_, va_Nw.use rfl (hN.1 (.fieldLinkNest RX6 132 "RecordBench$Field" "kind" "I" "RecordBench") (by decide +kernel))⟩) (fun _ h9 => h9) dX6_takeDefault_46 ?_
    refine lv_iconst (v := 5) hx hb dX6_takeDefault_49 (by decide) ?_
    refine lv_icmp_ne (tgt := 61) hx hb dX6_takeDefault_50 (by decide) (fun c_4 => ?_) (fun c_4 => ?_)
    · have hf := pif_f c_4 hf
      refine lv_aload_n hx hb dX6_takeDefault_61 rfl (lv_at hl 0 rfl) ?_
      refine o_aload_n hx hb dX6_takeDefault_62 rfl (lv_at hl 1 rfl) ?_
      obtain ⟨hk_5, hf⟩ := gd_some hf
      obtain ⟨r_8, st_6, hc_7, hf⟩ := bnd_some hf
      have hmc := (mo_X6_takeValue h0 l1 _ _ _ hc_7).mo
      have hmr := mo_X6_takeDefault_66 h0 _ _ _ _ hf
      refine q_ci hp hA (va_runV (As := [va_rf (Option.map ad l1)]) (rest := []) ⟨hx, hb, hml, hown, hts⟩ (c_X6_takeValue l dC dI ka ad ct h0 l1 _ _ _ hc_7 _) (cwV 1 hts gq_X6_takeDefault_X6_takeValue_156 rfl rfl rfl (by decide +kernel) ⟨Nat.le_of_ble_eq_true rfl, Nat.le_of_ble_eq_true rfl⟩) ⟨PrC.blind _, q_rv8 hK hp hC hk_5, q_pre hp hK hN hZ hC hR hL hA⟩ rfl rfl hl.1 rfl (lv_room (Nat.le_of_ble_eq_true rfl)) dX6_takeDefault_63 ⟨by show qn gs - qn st + 0 ≤ qn st' - qn st; have := hmr.1; have := hm.1; have := hmc.1; omega, by show qs gs - qs st + 0 ≤ qs st' - qs st; have := hmr.2.1; have := hm.2.1; have := hmc.2.1; omega⟩) (fun H locs hp => ?_)
      have hk_3 : qk st_6 a_1 = 3 := by rw [(mo_X6_takeValue h0 l1 _ _ _ hc_7).2.2.1]; exact hk_3
      have hk_5 : qk st_6 h0 = 9 := by rw [(mo_X6_takeValue h0 l1 _ _ _ hc_7).2.2.1]; exact hk_5
      refine W.widen (k := qn st_6 - qn st) (n := qs st_6 - qs st) (by have := hmc.1; omega) (by have := hmc.2.1; omega) ?_
      have hm := hm.tr hmc
      exact J66 (r_8, st_6) _ _ _ ⟨hf, hp, (lv_sub hl [] rfl), hm⟩
    · have hf := pif_t c_4 hf
      refine lv_aload_n hx hb dX6_takeDefault_53 rfl (lv_at hl 0 rfl) ?_
      refine o_aload_n hx hb dX6_takeDefault_54 rfl (lv_at hl 1 rfl) ?_
      obtain ⟨hk_9, hf⟩ := gd_some hf
      obtain ⟨r_12, st_10, hc_11, hf⟩ := bnd_some hf
      have lthk_3 := hp.2.2.1.lt (i := a_1) (by rw [hk_3]; decide)
      have lthk_9 := hp.2.2.1.lt (i := h0) (by rw [hk_9]; decide)
      have hmc := (mo_X6_takeText h0 l1 _ _ _ hc_11)
      have hmr := mo_X6_takeDefault_58 h0 _ _ _ _ hf
      refine q_ci hp hA (va_runV (As := [va_rf (Option.map ad l1)]) (rest := []) ⟨hx, hb, hml, hown, hts⟩ (c_X6_takeText l dC dI ka ad ct h0 l1 _ _ _ hc_11 _) (cwV 1 hts gq_X6_takeDefault_X6_takeText_153 rfl rfl rfl (by decide +kernel) ⟨Nat.le_of_ble_eq_true rfl, Nat.le_of_ble_eq_true rfl⟩) ⟨PrC.blind _, q_rv8 hK hp hC hk_9, q_pre hp hK hN hZ hC hR hL hA⟩ rfl rfl hl.1 rfl (lv_room (Nat.le_of_ble_eq_true rfl)) dX6_takeDefault_55 ⟨by show qn gs - qn st + (qn st_10 - qn gs) ≤ qn st' - qn st; have := hmr.1; have := hm.1; have := hmc.1; omega, by show qs gs - qs st + (qs st_10 - qs gs) ≤ qs st' - qs st; have := hmr.2.1; have := hm.2.1; have := hmc.2.1; omega⟩) (fun H locs hp => ?_)
      have hk_3 : qk st_10 a_1 = 3 := ((mo_X6_takeText h0 l1 _ _ _ hc_11).2.2 _ lthk_3).1.trans hk_3
      have hk_9 : qk st_10 h0 = 9 := ((mo_X6_takeText h0 l1 _ _ _ hc_11).2.2 _ lthk_9).1.trans hk_9
      refine W.widen (k := qn st_10 - qn st) (n := qs st_10 - qs st) (by have := hm.1; have := hmc.1; omega) (by have := hm.2.1; have := hmc.2.1; omega) ?_
      have hm := hm.tr hmc
      exact J58 (r_12, st_10) _ _ _ ⟨hf, hp, (lv_sub hl [] rfl), hm⟩
  refine W_blkA (fun (u : (Option Nat) × Int32 × CS) H locs ls => match u with | (l1, s0, gs) => fX6_takeDefault_15 h0 l1 s0 gs = some (r, st') ∧ Cp (dC, dI) ka ad ct A s.heap gs H locs ∧ lv_has ls 2 [(0, .ref (ad h0)), (1, va_rf (Option.map ad l1))] ∧ Mo st gs) (fun (u : (Option Nat) × Int32 × CS) ls => match u with | (l1, s0, gs) => F0 m 15 ls [.int s0]) (fun (u : (Option Nat) × Int32 × CS) => match u with | (l1, s0, gs) => qn gs - qn st) (fun (u : (Option Nat) × Int32 × CS) => match u with | (l1, s0, gs) => qs gs - qs st) ?_ (fun J15 => ?_)
  · intro u H locs ls hu
    obtain ⟨l1, s0, gs⟩ := u
    obtain ⟨hf, hp, hl, hm⟩ := hu
    show W p l e _ s m _ below meth c _ _ (qn gs - qn st) (qs gs - qs st) _ (F0 m 15 ls [.int s0])
    unfold fX6_takeDefault_15 at hf
    refine lv_bipush (v := 61) hx hb dX6_takeDefault_15 (by decide) ?_
    refine lv_icmp_ne (tgt := 29) hx hb dX6_takeDefault_17 (by decide) (fun c_13 => ?_) (fun c_13 => ?_)
    · have hf := pif_f c_13 hf
      refine lv_iconst (v := 1) hx hb dX6_takeDefault_29 (by decide) ?_
      obtain ⟨e1, e2⟩ := pr_some hf
      refine W.widen (k := qn st' - qn st) (n := qs st' - qs st) (by rw [e2]; exact Nat.le_refl _) (by rw [e2]; exact Nat.le_refl _) ?_
      exact W.zret (v := 1) hx hb hr rfl (fun t ht hW => ⟨⟨1, (), rfl, e1, Cp.end e2 hp ht⟩, hp.2.1.F ht⟩) hp.2.1.2.2 dX6_takeDefault_30
    · have hf := pif_t c_13 hf
      refine o_aload_n hx hb dX6_takeDefault_20 rfl (lv_at hl 1 rfl) ?_
      obtain ⟨a_14, ha_15, hf⟩ := ono_some hf
      refine o_at ha_15 ?_
      obtain ⟨hk_16, hf⟩ := gd_some hf
      refine q_gi (ci := 2) (C := RX0) (T := TX0) (N := 7) (k := 1) hx hb hts iRX0 hown hK hp hk_16 (by decide) rfl rfl (by decide) rfl (Or.inr ⟨_, va_Nw.use rfl (hN.1 (.fieldLinkNest RX6 132 "RecordBench$Field" "kind" "I" "RecordBench") (by decide +kernel))⟩) (fun _ h9 => h9) dX6_takeDefault_21 ?_
      refine lv_bipush (v := 6) hx hb dX6_takeDefault_24 (by decide) ?_
      refine lv_icmp_ne (tgt := 31) hx hb dX6_takeDefault_26 (by decide) (fun c_17 => ?_) (fun c_17 => ?_)
      · have hf := pif_f c_17 hf
        refine lv_aload_n hx hb dX6_takeDefault_31 rfl (lv_at hl 0 rfl) ?_
        refine lv_dup hx hb dX6_takeDefault_32 rfl ?_
        obtain ⟨hk_18, hf⟩ := gd_some hf
        refine q_gi (ci := 8) (C := RX6) (T := TX6) (N := 6) (k := 3) hx hb hts iRX6 hown hK hp hk_18 (by decide) rfl rfl (by decide) rfl (Or.inl (hts (.fieldLink RX6 26 "RecordBench$TextReader" "pos" "I") (by decide +kernel))) (fun _ h9 => h9) dX6_takeDefault_33 ?_
        refine lv_iconst (v := 1) hx hb dX6_takeDefault_36 (by decide) ?_
        refine lv_iadd hx hb dX6_takeDefault_37 ?_
        refine q_pi (ci := 8) (C := RX6) (T := TX6) (N := 6) (k := 3) (v := (qI gs h0 3) + 1) (ty := .int) hx hb hts iRX6 tyX6 tyX6_ok nmX6 hown hK hp hk_18 (by decide) rfl rfl (by decide) rfl (Or.inl (hts (.fieldLink RX6 26 "RecordBench$TextReader" "pos" "I") (by decide +kernel))) (fun _ h9 => h9) rfl (by decide +kernel) rfl rfl dX6_takeDefault_38 (fun H locs hp => ?_)
        obtain ⟨st_19, est_19, hf⟩ := nam_some hf
        rw [← est_19] at hp
        have hm := hm.wI est_19
        refine W.widen (k := qn st_19 - qn st) (n := qs st_19 - qs st) (by rw [est_19]; exact Nat.le_refl _) (by rw [est_19]; exact Nat.le_refl _) ?_
        have hk_16 : qk st_19 a_14 = 3 := by rw [est_19]; exact hk_16
        have hk_18 : qk st_19 h0 = 9 := by rw [est_19]; exact hk_18
        refine lv_aload_n hx hb dX6_takeDefault_41 rfl (lv_at hl 0 rfl) ?_
        obtain ⟨st_20, hc_21, hf⟩ := bnv_some hf
        have hmc := (mo_X6_skipBlanks h0 _ _ hc_21).mo
        have hmr := mo_X6_takeDefault_45 h0 _ _ _ _ hf
        refine q_cv hp hA (va_runV (As := []) (rest := []) ⟨hx, hb, hml, hown, hts⟩ (c_X6_skipBlanks l dC dI ka ad ct h0 _ _ hc_21 _) (cwV 0 hts gq_X6_takeDefault_X6_skipBlanks_39 rfl rfl rfl (by decide +kernel) ⟨Nat.le_of_ble_eq_true rfl, Nat.le_of_ble_eq_true rfl⟩) ⟨PrC.blind _, q_rv8 hK hp hC hk_18, q_pre hp hK hN hZ hC hR hL hA⟩ rfl rfl hl.1 rfl (lv_room (Nat.le_of_ble_eq_true rfl)) dX6_takeDefault_42 ⟨by show qn st_19 - qn st + 0 ≤ qn st' - qn st; have := hmr.1; have := hm.1; have := hmc.1; omega, by show qs st_19 - qs st + 0 ≤ qs st' - qs st; have := hmr.2.1; have := hm.2.1; have := hmc.2.1; omega⟩) (fun H locs hp => ?_)
        have hk_16 : qk st_20 a_14 = 3 := by rw [(mo_X6_skipBlanks h0 _ _ hc_21).2.2.1]; exact hk_16
        have hk_18 : qk st_20 h0 = 9 := by rw [(mo_X6_skipBlanks h0 _ _ hc_21).2.2.1]; exact hk_18
        refine W.widen (k := qn st_20 - qn st) (n := qs st_20 - qs st) (by have := hmc.1; omega) (by have := hmc.2.1; omega) ?_
        have hm := hm.tr hmc
        exact J45 (l1, st_20) _ _ _ ⟨hf, hp, (lv_sub hl [0, 1] rfl), hm⟩
      · have hf := pif_t c_17 hf
        refine lv_iconst (v := 1) hx hb dX6_takeDefault_29 (by decide) ?_
        obtain ⟨e1, e2⟩ := pr_some hf
        refine W.widen (k := qn st' - qn st) (n := qs st' - qs st) (by rw [e2]; exact Nat.le_refl _) (by rw [e2]; exact Nat.le_refl _) ?_
        exact W.zret (v := 1) hx hb hr rfl (fun t ht hW => ⟨⟨1, (), rfl, e1, Cp.end e2 hp ht⟩, hp.2.1.F ht⟩) hp.2.1.2.2 dX6_takeDefault_30
  refine W_blkA (fun (u : (Option Nat) × CS) H locs ls => match u with | (l1, gs) => fX6_takeDefault_4 h0 l1 gs = some (r, st') ∧ Cp (dC, dI) ka ad ct A s.heap gs H locs ∧ lv_has ls 2 [(0, .ref (ad h0)), (1, va_rf (Option.map ad l1))] ∧ Mo st gs) (fun (u : (Option Nat) × CS) ls => match u with | (l1, gs) => F0 m 4 ls []) (fun (u : (Option Nat) × CS) => match u with | (l1, gs) => qn gs - qn st) (fun (u : (Option Nat) × CS) => match u with | (l1, gs) => qs gs - qs st) ?_ (fun J4 => ?_)
  · intro u H locs ls hu
    obtain ⟨l1, gs⟩ := u
    obtain ⟨hf, hp, hl, hm⟩ := hu
    show W p l e _ s m _ below meth c _ _ (qn gs - qn st) (qs gs - qs st) _ (F0 m 4 ls [])
    unfold fX6_takeDefault_4 at hf
    refine lv_aload_n hx hb dX6_takeDefault_4 rfl (lv_at hl 0 rfl) ?_
    obtain ⟨hk_23, hf⟩ := gd_some hf
    refine q_gp (ci := 8) (C := RX6) (T := TX6) (N := 6) (k := 0) hx hb hts iRX6 hown hK hp hk_23 (by decide) rfl rfl (by decide) rfl (Or.inl (hts (.fieldLink RX6 9 "RecordBench$TextReader" "tape" "LRecordBench$Row;") (by decide +kernel))) (fun _ h9 => h9) dX6_takeDefault_5 ?_
    refine lv_aload_n hx hb dX6_takeDefault_8 rfl (lv_at hl 0 rfl) ?_
    refine q_gi (ci := 8) (C := RX6) (T := TX6) (N := 6) (k := 3) hx hb hts iRX6 hown hK hp hk_23 (by decide) rfl rfl (by decide) rfl (Or.inl (hts (.fieldLink RX6 26 "RecordBench$TextReader" "pos" "I") (by decide +kernel))) (fun _ h9 => h9) dX6_takeDefault_9 ?_
    obtain ⟨a_24, ha_25, hf⟩ := ono_some hf
    refine o_at1 ha_25 ?_
    obtain ⟨hk_26, hf⟩ := gd_some hf
    obtain ⟨r_29, st_27, hc_28, hf⟩ := bnd_some hf
    have hmc := (mo_X5_byteAt a_24 (qI gs h0 3) _ _ _ hc_28).mo
    have hmr := mo_X6_takeDefault_15 h0 _ _ _ _ _ hf
    refine q_ci hp hA (va_runV (As := [.int (qI gs h0 3)]) (rest := []) ⟨hx, hb, hml, hown, hts⟩ (c_X5_byteAt l dC dI ka ad ct a_24 (qI gs h0 3) _ _ _ hc_28 _) (cwV 1 hts gq_X6_takeDefault_X5_byteAt_150 rfl rfl rfl (by decide +kernel) ⟨Nat.le_of_ble_eq_true rfl, Nat.le_of_ble_eq_true rfl⟩) ⟨PrC.blind _, q_rv7 hK hp hC hk_26, q_pre hp hK hN hZ hC hR hL hA⟩ rfl rfl hl.1 rfl (lv_room (Nat.le_of_ble_eq_true rfl)) dX6_takeDefault_12 ⟨by show qn gs - qn st + 0 ≤ qn st' - qn st; have := hmr.1; have := hm.1; have := hmc.1; omega, by show qs gs - qs st + 0 ≤ qs st' - qs st; have := hmr.2.1; have := hm.2.1; have := hmc.2.1; omega⟩) (fun H locs hp => ?_)
    have hk_23 : qk st_27 h0 = 9 := by rw [(mo_X5_byteAt a_24 (qI gs h0 3) _ _ _ hc_28).2.2.1]; exact hk_23
    have hk_26 : qk st_27 a_24 = 8 := by rw [(mo_X5_byteAt a_24 (qI gs h0 3) _ _ _ hc_28).2.2.1]; exact hk_26
    refine W.widen (k := qn st_27 - qn st) (n := qs st_27 - qs st) (by have := hmc.1; omega) (by have := hmc.2.1; omega) ?_
    have hm := hm.tr hmc
    exact J15 (l1, r_29, st_27) _ _ _ ⟨hf, hp, (lv_sub hl [0, 1] rfl), hm⟩
  unfold fX6_takeDefault at hf
  refine lv_aload_n hx hb dX6_takeDefault_0 rfl (lv_at hl 0 rfl) ?_
  obtain ⟨hk_30, hf⟩ := gd_some hf
  obtain ⟨st_31, hc_32, hf⟩ := bnv_some hf
  have hmc := (mo_X6_skipBlanks h0 _ _ hc_32).mo
  have hmr := mo_X6_takeDefault_4 h0 _ _ _ _ hf
  refine q_cv hp hA (va_runV (As := []) (rest := []) ⟨hx, hb, hml, hown, hts⟩ (c_X6_skipBlanks l dC dI ka ad ct h0 _ _ hc_32 _) (cwV 0 hts gq_X6_takeDefault_X6_skipBlanks_39 rfl rfl rfl (by decide +kernel) ⟨Nat.le_of_ble_eq_true rfl, Nat.le_of_ble_eq_true rfl⟩) ⟨PrC.blind _, q_rv8 hK hp hC hk_30, q_pre hp hK hN hZ hC hR hL hA⟩ rfl rfl hl.1 rfl (lv_room (Nat.le_of_ble_eq_true rfl)) dX6_takeDefault_1 ⟨by show qn st - qn st + 0 ≤ qn st' - qn st; have := hmr.1; have := hm.1; have := hmc.1; omega, by show qs st - qs st + 0 ≤ qs st' - qs st; have := hmr.2.1; have := hm.2.1; have := hmc.2.1; omega⟩) (fun H locs hp => ?_)
  have hk_30 : qk st_31 h0 = 9 := by rw [(mo_X6_skipBlanks h0 _ _ hc_32).2.2.1]; exact hk_30
  refine W.widen (k := qn st_31 - qn st) (n := qs st_31 - qs st) (by have := hmc.1; omega) (by have := hmc.2.1; omega) ?_
  have hm := hm.tr hmc
  exact J4 (p0, st_31) _ _ _ ⟨hf, hp, (lv_sub hl [0, 1] rfl), hm⟩
noncomputable def fX6_takeField_91 (h0 : Nat)  (s0 : Int32) (gs : CS) : Option (Int32 × CS) := pif (s0 = 0) (some ((0 : Int32), gs)) (some ((1 : Int32), gs))
set_option maxHeartbeats 1000000 in
theorem mo_X6_takeField_91 (h0 : Nat)   (s0 : Int32) (gs : CS) (r : Int32) (st' : CS) (hf : fX6_takeField_91 h0 s0 gs = some (r, st')) : Mo gs st' := by
  unfold fX6_takeField_91 at hf
  have hm : Mo gs gs := Mo.rf
  rcases pif_or hf with ⟨c_1, hf⟩ | ⟨c_1, hf⟩
  · obtain ⟨e1, e2⟩ := pr_some hf
    exact e2 ▸ hm
  · obtain ⟨e1, e2⟩ := pr_some hf
    exact e2 ▸ hm
noncomputable def fX6_takeField_83 (h0 : Nat)  (l2 : Option Nat) (l3 : Option Nat) (s0 : Int32) (gs : CS) : Option (Int32 × CS) := pif (s0 = 0) (some ((0 : Int32), gs)) (ono l2 (fun a_3 => gd (qk gs a_3 = 4) (bnd (fX1_add a_3 l3 gs) (fun r_8 st_6 => fX6_takeField_91 h0 r_8 st_6))))
set_option maxHeartbeats 1000000 in
theorem mo_X6_takeField_83 (h0 : Nat)   (l2 : Option Nat) (l3 : Option Nat) (s0 : Int32) (gs : CS) (r : Int32) (st' : CS) (hf : fX6_takeField_83 h0 l2 l3 s0 gs = some (r, st')) : Mo gs st' := by
  unfold fX6_takeField_83 at hf
  have hm : Mo gs gs := Mo.rf
  rcases pif_or hf with ⟨c_2, hf⟩ | ⟨c_2, hf⟩
  · obtain ⟨e1, e2⟩ := pr_some hf
    exact e2 ▸ hm
  · obtain ⟨a_3, ha_4, hf⟩ := ono_some hf
    obtain ⟨hk_5, hf⟩ := gd_some hf
    obtain ⟨r_8, st_6, hc_7, hf⟩ := bnd_some hf
    have hm := hm.ke (mo_X1_add a_3 l3 _ _ _ hc_7)
    exact hm.tr (mo_X6_takeField_91 h0 r_8 st_6 _ _ hf)
noncomputable def fX6_takeField_72 (h0 : Nat)  (l2 : Option Nat) (l3 : Option Nat) (s0 : Int32) (gs : CS) : Option (Int32 × CS) := pif (s0 = 0) (some ((0 : Int32), gs)) (gd (qk gs h0 = 9) (bnd (fX6_takeClose h0 gs) (fun r_13 st_11 => fX6_takeField_83 h0 l2 l3 r_13 st_11)))
set_option maxHeartbeats 1000000 in
theorem mo_X6_takeField_72 (h0 : Nat)   (l2 : Option Nat) (l3 : Option Nat) (s0 : Int32) (gs : CS) (r : Int32) (st' : CS) (hf : fX6_takeField_72 h0 l2 l3 s0 gs = some (r, st')) : Mo gs st' := by
  unfold fX6_takeField_72 at hf
  have hm : Mo gs gs := Mo.rf
  rcases pif_or hf with ⟨c_9, hf⟩ | ⟨c_9, hf⟩
  · obtain ⟨e1, e2⟩ := pr_some hf
    exact e2 ▸ hm
  · obtain ⟨hk_10, hf⟩ := gd_some hf
    obtain ⟨r_13, st_11, hc_12, hf⟩ := bnd_some hf
    have hm := hm.ke (mo_X6_takeClose h0 _ _ _ hc_12)
    exact hm.tr (mo_X6_takeField_83 h0 l2 l3 r_13 st_11 _ _ hf)
noncomputable def fX6_takeField_71 (h0 : Nat)  (l2 : Option Nat) (l3 : Option Nat) (gs : CS) : Option (Int32 × CS) := fX6_takeField_72 h0 l2 l3 0 gs
set_option maxHeartbeats 1000000 in
theorem mo_X6_takeField_71 (h0 : Nat)   (l2 : Option Nat) (l3 : Option Nat) (gs : CS) (r : Int32) (st' : CS) (hf : fX6_takeField_71 h0 l2 l3 gs = some (r, st')) : Mo gs st' := by
  unfold fX6_takeField_71 at hf
  have hm : Mo gs gs := Mo.rf
  exact hm.tr (mo_X6_takeField_72 h0 l2 l3 0 gs _ _ hf)
noncomputable def fX6_takeField_67 (h0 : Nat)  (l2 : Option Nat) (l3 : Option Nat) (gs : CS) : Option (Int32 × CS) := fX6_takeField_72 h0 l2 l3 1 gs
set_option maxHeartbeats 1000000 in
theorem mo_X6_takeField_67 (h0 : Nat)   (l2 : Option Nat) (l3 : Option Nat) (gs : CS) (r : Int32) (st' : CS) (hf : fX6_takeField_67 h0 l2 l3 gs = some (r, st')) : Mo gs st' := by
  unfold fX6_takeField_67 at hf
  have hm : Mo gs gs := Mo.rf
  exact hm.tr (mo_X6_takeField_72 h0 l2 l3 1 gs _ _ hf)
noncomputable def fX6_takeField_64 (h0 : Nat)  (l2 : Option Nat) (l3 : Option Nat) (s0 : Int32) (gs : CS) : Option (Int32 × CS) := pif (s0 = 0) (fX6_takeField_71 h0 l2 l3 gs) (fX6_takeField_67 h0 l2 l3 gs)
set_option maxHeartbeats 1000000 in
theorem mo_X6_takeField_64 (h0 : Nat)   (l2 : Option Nat) (l3 : Option Nat) (s0 : Int32) (gs : CS) (r : Int32) (st' : CS) (hf : fX6_takeField_64 h0 l2 l3 s0 gs = some (r, st')) : Mo gs st' := by
  unfold fX6_takeField_64 at hf
  have hm : Mo gs gs := Mo.rf
  rcases pif_or hf with ⟨c_14, hf⟩ | ⟨c_14, hf⟩
  · exact hm.tr (mo_X6_takeField_71 h0 l2 l3 gs _ _ hf)
  · exact hm.tr (mo_X6_takeField_67 h0 l2 l3 gs _ _ hf)
noncomputable def fX6_takeField_56 (h0 : Nat)  (l2 : Option Nat) (l3 : Option Nat) (s0 : Int32) (gs : CS) : Option (Int32 × CS) := pif (s0 = 0) (fX6_takeField_71 h0 l2 l3 gs) (gd (qk gs h0 = 9) (bnd (fX6_takeDefault h0 l3 gs) (fun r_19 st_17 => fX6_takeField_64 h0 l2 l3 r_19 st_17)))
set_option maxHeartbeats 1000000 in
theorem mo_X6_takeField_56 (h0 : Nat)   (l2 : Option Nat) (l3 : Option Nat) (s0 : Int32) (gs : CS) (r : Int32) (st' : CS) (hf : fX6_takeField_56 h0 l2 l3 s0 gs = some (r, st')) : Mo gs st' := by
  unfold fX6_takeField_56 at hf
  have hm : Mo gs gs := Mo.rf
  rcases pif_or hf with ⟨c_15, hf⟩ | ⟨c_15, hf⟩
  · exact hm.tr (mo_X6_takeField_71 h0 l2 l3 gs _ _ hf)
  · obtain ⟨hk_16, hf⟩ := gd_some hf
    obtain ⟨r_19, st_17, hc_18, hf⟩ := bnd_some hf
    have hm := hm.tr (mo_X6_takeDefault h0 l3 _ _ _ hc_18)
    exact hm.tr (mo_X6_takeField_64 h0 l2 l3 r_19 st_17 _ _ hf)
noncomputable def fX6_takeField_48 (h0 : Nat)  (l2 : Option Nat) (l3 : Option Nat) (s0 : Int32) (gs : CS) : Option (Int32 × CS) := pif (s0 = 0) (fX6_takeField_71 h0 l2 l3 gs) (gd (qk gs h0 = 9) (bnd (fX6_takeGroup h0 l3 gs) (fun r_24 st_22 => fX6_takeField_56 h0 l2 l3 r_24 st_22)))
set_option maxHeartbeats 1000000 in
theorem mo_X6_takeField_48 (h0 : Nat)   (l2 : Option Nat) (l3 : Option Nat) (s0 : Int32) (gs : CS) (r : Int32) (st' : CS) (hf : fX6_takeField_48 h0 l2 l3 s0 gs = some (r, st')) : Mo gs st' := by
  unfold fX6_takeField_48 at hf
  have hm : Mo gs gs := Mo.rf
  rcases pif_or hf with ⟨c_20, hf⟩ | ⟨c_20, hf⟩
  · exact hm.tr (mo_X6_takeField_71 h0 l2 l3 gs _ _ hf)
  · obtain ⟨hk_21, hf⟩ := gd_some hf
    obtain ⟨r_24, st_22, hc_23, hf⟩ := bnd_some hf
    have hm := hm.tr (mo_X6_takeGroup h0 l3 _ _ _ hc_23)
    exact hm.tr (mo_X6_takeField_56 h0 l2 l3 r_24 st_22 _ _ hf)
noncomputable def fX6_takeField_35 (h0 : Nat)  (l1 : Int32) (l2 : Option Nat) (l3 : Option Nat) (s0 : Int32) (gs : CS) : Option (Int32 × CS) := pif (s0 = 0) (gd (qk gs h0 = 9) (bnd (fX6_takeKind h0 l3 l1 gs) (fun r_29 st_27 => fX6_takeField_48 h0 l2 l3 r_29 st_27))) (fX6_takeField_67 h0 l2 l3 gs)
set_option maxHeartbeats 1000000 in
theorem mo_X6_takeField_35 (h0 : Nat)   (l1 : Int32) (l2 : Option Nat) (l3 : Option Nat) (s0 : Int32) (gs : CS) (r : Int32) (st' : CS) (hf : fX6_takeField_35 h0 l1 l2 l3 s0 gs = some (r, st')) : Mo gs st' := by
  unfold fX6_takeField_35 at hf
  have hm : Mo gs gs := Mo.rf
  rcases pif_or hf with ⟨c_25, hf⟩ | ⟨c_25, hf⟩
  · obtain ⟨hk_26, hf⟩ := gd_some hf
    obtain ⟨r_29, st_27, hc_28, hf⟩ := bnd_some hf
    have hm := hm.tr (mo_X6_takeKind h0 l3 l1 _ _ _ hc_28)
    exact hm.tr (mo_X6_takeField_48 h0 l2 l3 r_29 st_27 _ _ hf)
  · exact hm.tr (mo_X6_takeField_67 h0 l2 l3 gs _ _ hf)
noncomputable def fX6_takeField_23 (h0 : Nat)  (l1 : Int32) (l2 : Option Nat) (l3 : Option Nat) (s0 : Int32) (gs : CS) : Option (Int32 × CS) := pif (s0 = 0) (some ((0 : Int32), gs)) (ono l3 (fun a_31 => gd (qk gs a_31 = 3) (ono (qP gs a_31 4) (fun a_34 => gd (qk gs a_34 = 1) (bnd (fJ0_isEmpty_aae02 a_34 gs) (fun r_39 st_37 => fX6_takeField_35 h0 l1 l2 l3 r_39 st_37))))))
set_option maxHeartbeats 1000000 in
theorem mo_X6_takeField_23 (h0 : Nat)   (l1 : Int32) (l2 : Option Nat) (l3 : Option Nat) (s0 : Int32) (gs : CS) (r : Int32) (st' : CS) (hf : fX6_takeField_23 h0 l1 l2 l3 s0 gs = some (r, st')) : Mo gs st' := by
  unfold fX6_takeField_23 at hf
  have hm : Mo gs gs := Mo.rf
  rcases pif_or hf with ⟨c_30, hf⟩ | ⟨c_30, hf⟩
  · obtain ⟨e1, e2⟩ := pr_some hf
    exact e2 ▸ hm
  · obtain ⟨a_31, ha_32, hf⟩ := ono_some hf
    obtain ⟨hk_33, hf⟩ := gd_some hf
    obtain ⟨a_34, ha_35, hf⟩ := ono_some hf
    obtain ⟨hk_36, hf⟩ := gd_some hf
    obtain ⟨r_39, st_37, hc_38, hf⟩ := bnd_some hf
    have hm := hm.ke (mo_J0_isEmpty_aae02 a_34 _ _ _ hc_38)
    exact hm.tr (mo_X6_takeField_35 h0 l1 l2 l3 r_39 st_37 _ _ hf)
noncomputable def fX6_takeField_14 (h0 : Nat)  (l1 : Int32) (l2 : Option Nat) (l3 : Option Nat) (s0 : Int32) (gs : CS) : Option (Int32 × CS) := pif (s0 = 0) (some ((0 : Int32), gs)) (gd (qk gs h0 = 9) (bnd (fX6_takeName h0 l3 l2 gs) (fun r_44 st_42 => fX6_takeField_23 h0 l1 l2 l3 r_44 st_42)))
set_option maxHeartbeats 1000000 in
theorem mo_X6_takeField_14 (h0 : Nat)   (l1 : Int32) (l2 : Option Nat) (l3 : Option Nat) (s0 : Int32) (gs : CS) (r : Int32) (st' : CS) (hf : fX6_takeField_14 h0 l1 l2 l3 s0 gs = some (r, st')) : Mo gs st' := by
  unfold fX6_takeField_14 at hf
  have hm : Mo gs gs := Mo.rf
  rcases pif_or hf with ⟨c_40, hf⟩ | ⟨c_40, hf⟩
  · obtain ⟨e1, e2⟩ := pr_some hf
    exact e2 ▸ hm
  · obtain ⟨hk_41, hf⟩ := gd_some hf
    obtain ⟨r_44, st_42, hc_43, hf⟩ := bnd_some hf
    have hm := hm.tr (mo_X6_takeName h0 l3 l2 _ _ _ hc_43)
    exact hm.tr (mo_X6_takeField_23 h0 l1 l2 l3 r_44 st_42 _ _ hf)
noncomputable def fX6_takeField_7 (h0 : Nat)  (l1 : Int32) (l2 : Option Nat) (s0 : Option Nat) (gs : CS) : Option (Int32 × CS) := gd (qk gs h0 = 9) (bnd (fX6_takeNumber h0 s0 l2 gs) (fun r_48 st_46 => fX6_takeField_14 h0 l1 l2 s0 r_48 st_46))
set_option maxHeartbeats 1000000 in
theorem mo_X6_takeField_7 (h0 : Nat)   (l1 : Int32) (l2 : Option Nat) (s0 : Option Nat) (gs : CS) (r : Int32) (st' : CS) (hf : fX6_takeField_7 h0 l1 l2 s0 gs = some (r, st')) : Mo gs st' := by
  unfold fX6_takeField_7 at hf
  have hm : Mo gs gs := Mo.rf
  obtain ⟨hk_45, hf⟩ := gd_some hf
  obtain ⟨r_48, st_46, hc_47, hf⟩ := bnd_some hf
  have hm := hm.ke (mo_X6_takeNumber h0 s0 l2 _ _ _ hc_47)
  exact hm.tr (mo_X6_takeField_14 h0 l1 l2 s0 r_48 st_46 _ _ hf)
noncomputable def fX6_takeField_3 (h0 : Nat)  (l1 : Int32) (l2 : Option Nat) (s0 : Option Nat) (gs : CS) : Option (Int32 × CS) := ono s0 (fun a_49 => gd (qk gs a_49 = 3) (bnv (fX0_init a_49 gs) (fun st_52 => fX6_takeField_7 h0 l1 l2 s0 st_52)))
set_option maxHeartbeats 1000000 in
theorem mo_X6_takeField_3 (h0 : Nat)   (l1 : Int32) (l2 : Option Nat) (s0 : Option Nat) (gs : CS) (r : Int32) (st' : CS) (hf : fX6_takeField_3 h0 l1 l2 s0 gs = some (r, st')) : Mo gs st' := by
  unfold fX6_takeField_3 at hf
  have hm : Mo gs gs := Mo.rf
  obtain ⟨a_49, ha_50, hf⟩ := ono_some hf
  obtain ⟨hk_51, hf⟩ := gd_some hf
  obtain ⟨st_52, hc_53, hf⟩ := bnv_some hf
  have hm := hm.ke (mo_X0_init a_49 _ _ hc_53)
  exact hm.tr (mo_X6_takeField_7 h0 l1 l2 s0 st_52 _ _ hf)
noncomputable def fX6_takeField (h0 : Nat) (p0 : Int32) (p1 : Option Nat) (st : CS) : Option (Int32 × CS) := nam (wN st 3 0 7) (fun st_55 => fX6_takeField_3 h0 p0 p1 (some (qn st)) st_55)
set_option maxHeartbeats 1000000 in
theorem mo_X6_takeField (h0 : Nat) (p0 : Int32) (p1 : Option Nat) (st : CS) (r : Int32) (st' : CS) (hf : fX6_takeField h0 p0 p1 st = some (r, st')) : Mo st st' := by
  unfold fX6_takeField at hf
  have hm : Mo st st := Mo.rf
  obtain ⟨st_55, est_55, hf⟩ := nam_some hf
  have hm := hm.wN est_55
  exact hm.tr (mo_X6_takeField_3 h0 p0 p1 (some (qn st)) st_55 _ _ hf)
def wq_X6_takeField : List Cond := .code yX6_takeField cX6_takeField 6 (some .boolean) :: (([.methodLink RX6 90 yX1_add, .instanceMethod yX1_add, .selects RX1 yX1_add yX1_add, .initialized RX1, .methodLink RX6 87 yX6_takeClose, .instanceMethod yX6_takeClose, .selects RX6 yX6_takeClose yX6_takeClose, .initialized RX6, .methodLink RX6 84 yX6_takeDefault, .instanceMethod yX6_takeDefault, .selects RX6 yX6_takeDefault yX6_takeDefault, .methodLink RX6 80 yX6_takeGroup, .instanceMethod yX6_takeGroup, .selects RX6 yX6_takeGroup yX6_takeGroup, .methodLink RX6 76 yX6_takeKind, .instanceMethod yX6_takeKind, .selects RX6 yX6_takeKind yX6_takeKind, .methodLink RX6 70 yJ0_isEmpty_aae02, .instanceMethod yJ0_isEmpty_aae02, .selects RJ0 yJ0_isEmpty_aae02 yJ0_isEmpty_aae02, .initialized RJ0, .methodLink RX6 63 yX6_takeName, .instanceMethod yX6_takeName, .selects RX6 yX6_takeName yX6_takeName, .methodLink RX6 59 yX6_takeNumber, .instanceMethod yX6_takeNumber, .selects RX6 yX6_takeNumber yX6_takeNumber, .instanceMethod yX0_init, .initialized RX0, .classLink RX6 56 RX0, .instantiable RX0 7, .code yX1_add cX1_add 2 (some .boolean), .fieldLink RX1 11 "RecordBench$Make" "fields" "[LRecordBench$Field;", .fieldLink RX1 17 "RecordBench$Make" "count" "I", .code yX6_takeClose cX6_takeClose 1 (some .boolean), .fieldLink RX6 9 "RecordBench$TextReader" "tape" "LRecordBench$Row;", .fieldLink RX6 26 "RecordBench$TextReader" "pos" "I", .methodLink RX6 39 yX6_skipBlanks, .instanceMethod yX6_skipBlanks, .selects RX6 yX6_skipBlanks yX6_skipBlanks, .methodLink RX6 150 yX5_byteAt, .instanceMethod yX5_byteAt, .selects RX5 yX5_byteAt yX5_byteAt, .initialized RX5, .methodLink RX6 48 yX6_refuse, .instanceMethod yX6_refuse, .selects RX6 yX6_refuse yX6_refuse, .code yX6_skipBlanks cX6_skipBlanks 3 none, .methodLink RX6 42 yX5_size, .instanceMethod yX5_size, .selects RX5 yX5_size yX5_size, .methodLink RX6 189 yX6_isBlank, .static yX6_isBlank, .code yX5_size cX5_size 1 (some .int), .fieldLink RX5 21 "RecordBench$Row" "size" "I", .code yX5_byteAt cX5_byteAt 2 (some .int), .fieldLink RX5 15 "RecordBench$Row" "bytes" "[I", .code yX6_isBlank cX6_isBlank 1 (some .boolean), .code yX6_refuse cX6_refuse 3 (some .boolean), .fieldLink RX6 30 "RecordBench$TextReader" "fault" "I", .fieldLink RX6 33 "RecordBench$TextReader" "place" "I", .code yX6_takeDefault cX6_takeDefault 2 (some .boolean), .methodLink RX6 156 yX6_takeValue, .instanceMethod yX6_takeValue, .selects RX6 yX6_takeValue yX6_takeValue, .methodLink RX6 153 yX6_takeText, .instanceMethod yX6_takeText, .selects RX6 yX6_takeText yX6_takeText, .code yX6_takeValue cX6_takeValue 10 (some .boolean), .constantLong RX6 159 (10), .constantLong RX6 161 (-9223372036854775808), .methodLink RX6 163 yX0_holds, .instanceMethod yX0_holds, .selects RX0 yX0_holds yX0_holds, .methodLink RX6 93 yX6_isDigit, .instanceMethod yX6_isDigit, .selects RX6 yX6_isDigit yX6_isDigit, .methodLink RX6 97 yX6_digitAt, .instanceMethod yX6_digitAt, .selects RX6 yX6_digitAt yX6_digitAt, .code yX0_holds cX0_holds 3 (some .boolean), .fieldLink RX0 15 "RecordBench$Field" "kind" "I", .constantLong RX0 37 (-128), .constantLong RX0 39 (127), .constantLong RX0 41 (-2147483648), .constantLong RX0 43 (2147483647), .code yX6_isDigit cX6_isDigit 3 (some .boolean), .code yX6_digitAt cX6_digitAt 3 (some .int), .code yX6_takeText cX6_takeText 3 (some .boolean), .fieldLink RX6 22 "RecordBench$TextReader" "letters" "Ljava/lang/StringBuilder;", .methodLink RX6 182 yJ4_toString_0e30d, .instanceMethod yJ4_toString_0e30d, .selects RJ4 yJ4_toString_0e30d yJ4_toString_0e30d, .initialized RJ4, .methodLink RX6 178 yJ4_append_cf468, .instanceMethod yJ4_append_cf468, .selects RJ4 yJ4_append_cf468 yJ4_append_cf468, .methodLink RX6 175 yX6_isQuotable, .static yX6_isQuotable, .methodLink RX6 171 yJ4_setLength_d00df, .instanceMethod yJ4_setLength_d00df, .selects RJ4 yJ4_setLength_d00df yJ4_setLength_d00df, .code yJ4_toString_0e30d cJ4_toString_0e30d 1 (some (.object "java/lang/String")), .instanceMethod yJ0_init_81219, .methodLink RJ4 137 yJ0_init_81219, .classLink RJ4 18 RJ0, .instantiable RJ0 4, .code yJ0_init_81219 cJ0_init_81219 2 none, .instanceMethod yJ0_init_db425, .methodLink RJ0 489 yJ0_init_db425, .code yJ0_init_db425 cJ0_init_db425 5 none, .methodLink RJ0 1 objectInit, .instanceMethod objectInit, .code objectInit ⟨#[0xb1]⟩ 1 none, .fieldLink RJ0 15 "java/lang/String" "coder" "B", .fieldLink RJ0 9 "java/lang/String" "value" "[B", .methodLink RJ0 54 yJ7_copyOfRange_39247, .static yJ7_copyOfRange_39247, .initialized RJ7, .methodLink RJ0 1047 ⟨"java/lang/AbstractStringBuilder", "isLatin1", "()Z"⟩, .sameMethod "java/lang/AbstractStringBuilder" "java/lang/AbstractStringBuilder" "isLatin1" "()Z", .selects RJ4 ⟨"java/lang/AbstractStringBuilder", "isLatin1", "()Z"⟩ yJ5_isLatin1_aae02, .instanceMethod yJ5_isLatin1_aae02, .initialized RJ5, .methodLink RJ0 549 ⟨"java/lang/AbstractStringBuilder", "length", "()I"⟩, .sameMethod "java/lang/AbstractStringBuilder" "java/lang/AbstractStringBuilder" "length" "()I", .instanceMethod yJ5_length_8abf5, .selects RJ4 ⟨"java/lang/AbstractStringBuilder", "length", "()I"⟩ yJ4_length_8abf5, .instanceMethod yJ4_length_8abf5, .methodLink RJ0 552 ⟨"java/lang/AbstractStringBuilder", "getValue", "()[B"⟩, .sameMethod "java/lang/AbstractStringBuilder" "java/lang/AbstractStringBuilder" "getValue" "()[B", .selects RJ4 ⟨"java/lang/AbstractStringBuilder", "getValue", "()[B"⟩ yJ5_getValue_6d5f1, .instanceMethod yJ5_getValue_6d5f1, .code yJ7_copyOfRange_39247 cJ7_copyOfRange_39247 3 (some (.array .byte)), .classLink RJ7 311 "[B", .methodLink RJ7 339 yJ7_copyOfRangeByte_39247, .static yJ7_copyOfRangeByte_39247, .methodLink RJ7 310 ⟨"[B", "clone", "()Ljava/lang/Object;"⟩, .sameMethod "[B" "java/lang/Object" "clone" "()Ljava/lang/Object;", .native ⟨"java/lang/Object", "clone", "()Ljava/lang/Object;"⟩, .instanceMethod ⟨"java/lang/Object", "clone", "()Ljava/lang/Object;"⟩, .selects "[B" ⟨"[B", "clone", "()Ljava/lang/Object;"⟩ ⟨"java/lang/Object", "clone", "()Ljava/lang/Object;"⟩, .code yJ7_copyOfRangeByte_39247 cJ7_copyOfRangeByte_39247 5 (some (.array .byte)), .methodLink RJ7 304 Lib.Math.min.name, .static Lib.Math.min.name, .initialized "java/lang/Math", .code Lib.Math.min.name Lib.Math.min.code 2 (some .int), .methodLink RJ7 150 arraycopyName, .native arraycopyName, .static arraycopyName, .initialized "java/lang/System", .arrayClass .byte, .methodLink RJ7 343 yJ7_checkLength_df160, .static yJ7_checkLength_df160, .code yJ7_checkLength_df160 cJ7_checkLength_df160 2 none, .code yJ5_isLatin1_aae02 cJ5_isLatin1_aae02 1 (some .boolean), .fieldLink RJ5 18 "java/lang/String" "COMPACT_STRINGS" "Z", .fieldLink RJ5 22 "java/lang/AbstractStringBuilder" "coder" "B", .code yJ4_length_8abf5 cJ4_length_8abf5 1 (some .int), .methodLink RJ4 343 yJ5_length_8abf5, .superclass RJ4 RJ5, .code yJ5_length_8abf5 cJ5_length_8abf5 1 (some .int), .fieldLink RJ5 79 "java/lang/AbstractStringBuilder" "count" "I", .code yJ5_getValue_6d5f1 cJ5_getValue_6d5f1 1 (some (.array .byte)), .fieldLink RJ5 15 "java/lang/AbstractStringBuilder" "value" "[B", .code yJ4_append_cf468 cJ4_append_cf468 2 (some (.object "java/lang/StringBuilder")), .methodLink RJ4 50 yJ5_append_3fe6f, .sameMethod "java/lang/AbstractStringBuilder" "java/lang/AbstractStringBuilder" "append" "(C)Ljava/lang/AbstractStringBuilder;", .instanceMethod yJ5_append_3fe6f, .code yJ5_append_3fe6f cJ5_append_3fe6f 2 (some (.object "java/lang/AbstractStringBuilder")), .methodLink RJ5 191 yJ1_canEncode_fc78d, .static yJ1_canEncode_fc78d, .initialized RJ1, .methodLink RJ5 83 ⟨"java/lang/AbstractStringBuilder", "isLatin1", "()Z"⟩, .methodLink RJ5 100 ⟨"java/lang/AbstractStringBuilder", "ensureCapacityInternal", "(I)V"⟩, .sameMethod "java/lang/AbstractStringBuilder" "java/lang/AbstractStringBuilder" "ensureCapacityInternal" "(I)V", .selects RJ4 ⟨"java/lang/AbstractStringBuilder", "ensureCapacityInternal", "(I)V"⟩ yJ5_ensureCapacityInternal_d00df, .instanceMethod yJ5_ensureCapacityInternal_d00df, .code yJ1_canEncode_fc78d cJ1_canEncode_fc78d 1 (some .boolean), .code yJ5_ensureCapacityInternal_d00df cJ5_ensureCapacityInternal_d00df 3 none, .methodLink RJ5 108 yJ7_copyOf_9075b, .static yJ7_copyOf_9075b, .methodLink RJ5 104 ⟨"java/lang/AbstractStringBuilder", "newCapacity", "(I)I"⟩, .sameMethod "java/lang/AbstractStringBuilder" "java/lang/AbstractStringBuilder" "newCapacity" "(I)I", .selects RJ4 ⟨"java/lang/AbstractStringBuilder", "newCapacity", "(I)I"⟩ yJ5_newCapacity_0f7a4, .instanceMethod yJ5_newCapacity_0f7a4, .code yJ7_copyOf_9075b cJ7_copyOf_9075b 3 (some (.array .byte)), .code yJ5_newCapacity_0f7a4 cJ5_newCapacity_0f7a4 6 (some .int), .constant RJ5 39 (2147483647), .methodLink RJ5 114 yJ8_newLength_cabcc, .static yJ8_newLength_cabcc, .initialized RJ8, .code yJ8_newLength_cabcc cJ8_newLength_cabcc 4 (some .int), .methodLink RJ8 194 Lib.Math.max.name, .static Lib.Math.max.name, .code Lib.Math.max.name Lib.Math.max.code 2 (some .int), .constant RJ8 200 (2147483639), .code yX6_isQuotable cX6_isQuotable 1 (some .boolean), .methodLink RX6 192 yX5_isTextByte, .static yX5_isTextByte, .code yX5_isTextByte cX5_isTextByte 1 (some .boolean), .code yJ4_setLength_d00df cJ4_setLength_d00df 2 none, .methodLink RJ4 333 yJ5_setLength_d00df, .sameMethod "java/lang/AbstractStringBuilder" "java/lang/AbstractStringBuilder" "setLength" "(I)V", .instanceMethod yJ5_setLength_d00df, .code yJ5_setLength_d00df cJ5_setLength_d00df 2 none, .fieldLink RJ5 73 "java/lang/AbstractStringBuilder" "maybeLatin1" "Z", .code yX6_takeGroup cX6_takeGroup 4 (some .boolean), .methodLink RX6 120 yJ0_equals_9ea2d, .instanceMethod yJ0_equals_9ea2d, .selects RJ0 yJ0_equals_9ea2d yJ0_equals_9ea2d, .methodLink RX6 111 yX6_takeWord, .instanceMethod yX6_takeWord, .selects RX6 yX6_takeWord yX6_takeWord, .methodLink RX6 108 yX6_isLetter, .instanceMethod yX6_isLetter, .selects RX6 yX6_isLetter yX6_isLetter, .code yJ0_equals_9ea2d cJ0_equals_9ea2d 3 (some .boolean), .classLink RJ0 10 "java/lang/String", .fieldLink RJ0 38 "java/lang/String" "COMPACT_STRINGS" "Z", .methodLink RJ0 541 yJ1_equals_b5fdf, .static yJ1_equals_b5fdf, .code yJ1_equals_b5fdf cJ1_equals_b5fdf 3 (some .boolean), .code yX6_takeWord cX6_takeWord 2 (some (.object "java/lang/String")), .methodLink RX6 188 yJ4_length_8abf5, .selects RJ4 yJ4_length_8abf5 yJ4_length_8abf5, .code yX6_isLetter cX6_isLetter 3 (some .boolean), .code yX6_takeKind cX6_takeKind 4 (some .boolean), .methodLink RX6 135 yX6_takeRec, .instanceMethod yX6_takeRec, .selects RX6 yX6_takeRec yX6_takeRec, .methodLink RX6 124 yX6_kindOf, .static yX6_kindOf, .code yX6_takeRec cX6_takeRec 4 (some .boolean), .fieldLink RX6 15 "RecordBench$TextReader" "makes" "[LRecordBench$Make;", .static yX8_makeOf, .initialized RX8, .code yX8_makeOf cX8_makeOf 2 (some (.object "RecordBench$Make")), .code yX6_kindOf cX6_kindOf 1 (some .int), .code yJ0_isEmpty_aae02 cJ0_isEmpty_aae02 1 (some .boolean), .code yX6_takeName cX6_takeName 5 (some .boolean), .methodLink RX6 128 yX1_hasName, .instanceMethod yX1_hasName, .selects RX1 yX1_hasName yX1_hasName, .methodLink RX6 115 yJ0_length_8abf5, .instanceMethod yJ0_length_8abf5, .selects RJ0 yJ0_length_8abf5 yJ0_length_8abf5, .code yX1_hasName cX1_hasName 4 (some .boolean), .methodLink RX1 32 yJ0_equals_9ea2d, .code yJ0_length_8abf5 cJ0_length_8abf5 1 (some .int), .methodLink RJ0 335 yJ0_coder_7d493, .instanceMethod yJ0_coder_7d493, .selects RJ0 yJ0_coder_7d493 yJ0_coder_7d493, .code yJ0_coder_7d493 cJ0_coder_7d493 1 (some .byte), .code yX6_takeNumber cX6_takeNumber 6 (some .boolean), .methodLink RX6 101 yX1_fieldAt, .instanceMethod yX1_fieldAt, .selects RX1 yX1_fieldAt yX1_fieldAt, .code yX1_fieldAt cX1_fieldAt 2 (some (.object "RecordBench$Field")), .code yX0_init cX0_init 1 none, .methodLink RX0 3 objectInit, .fieldLink RX0 9 "RecordBench$Field" "number" "I", .fieldLink RX0 18 "RecordBench$Field" "group" "I", .fieldLink RX0 21 "RecordBench$Field" "rec" "I", .fieldLink RX0 26 "RecordBench$Field" "name" "Ljava/lang/String;", .fieldLink RX0 30 "RecordBench$Field" "text" "Ljava/lang/String;", .fieldLink RX0 33 "RecordBench$Field" "value" "J"] : List Cond) ++ wsX00 ++ wsX10 ++ wsX60 ++ wsX50 ++ wsJ00 ++ wsJ40)
theorem gs_wq_X6_takeField_wsX00 : GoodIn wq_X6_takeField wsX00 := fun w h => ⟨List.mem_cons_of_mem _ (List.mem_append_left _ (List.mem_append_left _ (List.mem_append_left _ (List.mem_append_left _ (List.mem_append_left _ (List.mem_append_right _ h)))))), (gt_wsX00 w h).2⟩
theorem gs_wq_X6_takeField_wsX10 : GoodIn wq_X6_takeField wsX10 := fun w h => ⟨List.mem_cons_of_mem _ (List.mem_append_left _ (List.mem_append_left _ (List.mem_append_left _ (List.mem_append_left _ (List.mem_append_right _ h))))), (gt_wsX10 w h).2⟩
set_option maxRecDepth 20000 in
theorem gq_X6_takeField_X1_add_90 : GoodIn wq_X6_takeField (wsV RX6 90 RX1 yX1_add wq_X1_add) := goodIn_app (goodIn_r _ [1, 2, 3, 4] rfl rfl) (goodIn_ca (goodIn_ca (goodIn_r _ [32, 33, 34] rfl rfl) gs_wq_X6_takeField_wsX00) gs_wq_X6_takeField_wsX10)
theorem gs_wq_X6_takeField_wsX60 : GoodIn wq_X6_takeField wsX60 := fun w h => ⟨List.mem_cons_of_mem _ (List.mem_append_left _ (List.mem_append_left _ (List.mem_append_left _ (List.mem_append_right _ h)))), (gt_wsX60 w h).2⟩
theorem gs_wq_X6_takeField_wsX50 : GoodIn wq_X6_takeField wsX50 := fun w h => ⟨List.mem_cons_of_mem _ (List.mem_append_left _ (List.mem_append_left _ (List.mem_append_right _ h))), (gt_wsX50 w h).2⟩
set_option maxRecDepth 20000 in
theorem gq_X6_takeField_X6_takeClose_87 : GoodIn wq_X6_takeField (wsV RX6 87 RX6 yX6_takeClose wq_X6_takeClose) := goodIn_app (goodIn_r _ [5, 6, 7, 8] rfl rfl) (goodIn_ca (goodIn_ca (goodIn_r _ [35, 36, 37, 38, 39, 40, 8, 41, 42, 43, 44, 45, 46, 47, 48, 49, 50, 51, 52, 53, 54, 55, 56, 57, 58, 59, 60, 61] rfl rfl) gs_wq_X6_takeField_wsX60) gs_wq_X6_takeField_wsX50)
theorem gs_wq_X6_takeField_wsJ00 : GoodIn wq_X6_takeField wsJ00 := fun w h => ⟨List.mem_cons_of_mem _ (List.mem_append_left _ (List.mem_append_right _ h)), (gt_wsJ00 w h).2⟩
theorem gs_wq_X6_takeField_wsJ40 : GoodIn wq_X6_takeField wsJ40 := fun w h => ⟨List.mem_cons_of_mem _ (List.mem_append_right _ h), (gt_wsJ40 w h).2⟩
set_option maxRecDepth 20000 in
theorem gq_X6_takeField_X6_takeDefault_84 : GoodIn wq_X6_takeField (wsV RX6 84 RX6 yX6_takeDefault wq_X6_takeDefault) := goodIn_app (goodIn_r _ [9, 10, 11, 8] rfl rfl) (goodIn_ca (goodIn_ca (goodIn_ca (goodIn_ca (goodIn_ca (goodIn_r _ [62, 36, 37, 63, 64, 65, 8, 66, 67, 68, 38, 39, 40, 41, 42, 43, 44, 69, 70, 71, 45, 46, 47, 72, 73, 74, 29, 75, 76, 77, 78, 79, 80, 59, 60, 61, 81, 82, 83, 84, 85, 86, 87, 56, 55, 57, 88, 89, 90, 91, 92, 93, 94, 95, 96, 97, 98, 99, 100, 101, 102, 103, 104, 21, 105, 106, 107, 108, 109, 110, 111, 112, 113, 114, 115, 116, 117, 118, 119, 120, 121, 122, 123, 124, 125, 126, 127, 128, 129, 130, 131, 132, 133, 134, 135, 136, 137, 138, 139, 140, 141, 142, 143, 144, 145, 146, 147, 148, 149, 150, 151, 152, 153, 154, 155, 156, 157, 158, 159, 160, 161, 162, 163, 164, 165, 166, 167, 168, 169, 170, 171, 172, 173, 174, 175, 176, 177, 178, 179, 180, 181, 182, 183, 184, 185, 186, 187, 188, 189, 190, 191, 192, 193, 194, 195, 196, 197, 198, 199, 200, 201, 202, 203, 204, 205, 206, 207, 48, 49, 50, 51, 52, 53, 54, 58] rfl rfl) gs_wq_X6_takeField_wsX60) gs_wq_X6_takeField_wsX00) gs_wq_X6_takeField_wsX50) gs_wq_X6_takeField_wsJ00) gs_wq_X6_takeField_wsJ40)
set_option maxRecDepth 20000 in
theorem gq_X6_takeField_X6_takeGroup_80 : GoodIn wq_X6_takeField (wsV RX6 80 RX6 yX6_takeGroup wq_X6_takeGroup) := goodIn_app (goodIn_r _ [12, 13, 14, 8] rfl rfl) (goodIn_ca (goodIn_ca (goodIn_ca (goodIn_ca (goodIn_ca (goodIn_r _ [208, 37, 45, 46, 47, 8, 78, 79, 80, 38, 39, 40, 75, 76, 77, 209, 210, 211, 21, 212, 213, 214, 215, 216, 217, 59, 60, 61, 88, 36, 41, 42, 43, 44, 56, 55, 57, 48, 49, 50, 51, 52, 53, 54, 58, 87, 218, 219, 220, 115, 116, 221, 222, 173, 223, 224, 90, 91, 92, 93, 94, 225, 129, 226, 95, 96, 97, 100, 101, 102, 103, 104, 105, 106, 107, 108, 109, 110, 111, 112, 113, 114, 117, 118, 119, 120, 121, 122, 123, 124, 125, 126, 127, 128, 130, 131, 132, 133, 134, 135, 136, 137, 138, 139, 140, 141, 142, 143, 144, 145, 146, 147, 148, 149, 150, 151, 152, 153, 154, 155, 156, 157, 158, 159, 160, 161, 162, 163, 164, 165, 166, 167, 168, 169, 170, 171, 172, 174, 175, 176, 177, 178, 179, 180, 181, 182, 183, 184, 185, 186, 187, 188, 189, 190, 191, 192, 193, 194, 195, 196, 197, 227, 202, 203, 204, 205, 206, 207] rfl rfl) gs_wq_X6_takeField_wsX60) gs_wq_X6_takeField_wsX00) gs_wq_X6_takeField_wsX50) gs_wq_X6_takeField_wsJ00) gs_wq_X6_takeField_wsJ40)
set_option maxRecDepth 20000 in
theorem gq_X6_takeField_X6_takeKind_76 : GoodIn wq_X6_takeField (wsV RX6 76 RX6 yX6_takeKind wq_X6_takeKind) := goodIn_app (goodIn_r _ [15, 16, 17, 8] rfl rfl) (goodIn_ca (goodIn_ca (goodIn_ca (goodIn_ca (goodIn_ca (goodIn_r _ [228, 37, 229, 230, 231, 8, 45, 46, 47, 232, 233, 212, 213, 214, 38, 39, 40, 234, 235, 75, 76, 77, 78, 79, 80, 236, 237, 215, 216, 217, 59, 60, 61, 87, 36, 41, 42, 43, 44, 56, 55, 57, 48, 49, 50, 51, 52, 53, 54, 58, 88, 238, 227, 239, 209, 210, 211, 21, 218, 219, 220, 115, 116, 221, 222, 173, 223, 224, 90, 91, 92, 93, 94, 225, 129, 226, 95, 96, 97, 100, 101, 102, 103, 104, 105, 106, 107, 108, 109, 110, 111, 112, 113, 114, 117, 118, 119, 120, 121, 122, 123, 124, 125, 126, 127, 128, 130, 131, 132, 133, 134, 135, 136, 137, 138, 139, 140, 141, 142, 143, 144, 145, 146, 147, 148, 149, 150, 151, 152, 153, 154, 155, 156, 157, 158, 159, 160, 161, 162, 163, 164, 165, 166, 167, 168, 169, 170, 171, 172, 174, 175, 176, 177, 178, 179, 180, 181, 182, 183, 184, 185, 186, 187, 188, 189, 190, 191, 192, 193, 194, 195, 196, 197, 202, 203, 204, 205, 206, 207] rfl rfl) gs_wq_X6_takeField_wsX60) gs_wq_X6_takeField_wsX00) gs_wq_X6_takeField_wsX50) gs_wq_X6_takeField_wsJ00) gs_wq_X6_takeField_wsJ40)
set_option maxRecDepth 20000 in
theorem gq_X6_takeField_J0_isEmpty_aae02_70 : GoodIn wq_X6_takeField (wsV RX6 70 RJ0 yJ0_isEmpty_aae02 wq_J0_isEmpty_aae02) := goodIn_app (goodIn_r _ [18, 19, 20, 21] rfl rfl) (goodIn_ca (goodIn_r _ [240, 116] rfl rfl) gs_wq_X6_takeField_wsJ00)
set_option maxRecDepth 20000 in
theorem gq_X6_takeField_X6_takeName_63 : GoodIn wq_X6_takeField (wsV RX6 63 RX6 yX6_takeName wq_X6_takeName) := goodIn_app (goodIn_r _ [22, 23, 24, 8] rfl rfl) (goodIn_ca (goodIn_ca (goodIn_ca (goodIn_ca (goodIn_ca (goodIn_ca (goodIn_r _ [241, 37, 45, 46, 47, 8, 242, 243, 244, 4, 232, 233, 209, 210, 211, 21, 245, 246, 247, 18, 19, 20, 212, 213, 214, 38, 39, 40, 59, 60, 61, 248, 33, 249, 218, 219, 220, 115, 116, 221, 222, 173, 223, 239, 250, 251, 252, 253, 254, 240, 224, 90, 36, 91, 92, 93, 94, 225, 129, 226, 95, 96, 97, 41, 42, 43, 44, 215, 216, 217, 49, 50, 51, 100, 101, 102, 103, 104, 105, 106, 107, 108, 109, 110, 111, 112, 113, 114, 117, 118, 119, 120, 121, 122, 123, 124, 125, 126, 127, 128, 130, 131, 132, 133, 134, 135, 136, 137, 138, 139, 140, 141, 142, 143, 144, 145, 146, 147, 148, 149, 150, 151, 152, 153, 154, 155, 156, 157, 158, 159, 160, 161, 162, 163, 164, 165, 166, 167, 168, 169, 170, 171, 172, 174, 175, 176, 177, 178, 179, 180, 181, 182, 183, 184, 185, 186, 187, 188, 189, 190, 191, 192, 193, 194, 195, 196, 197, 56, 55, 57, 227, 54, 202, 203, 204, 205, 206, 207, 48, 52, 53, 58] rfl rfl) gs_wq_X6_takeField_wsX60) gs_wq_X6_takeField_wsX00) gs_wq_X6_takeField_wsX10) gs_wq_X6_takeField_wsJ00) gs_wq_X6_takeField_wsJ40) gs_wq_X6_takeField_wsX50)
set_option maxRecDepth 20000 in
theorem gq_X6_takeField_X6_takeNumber_59 : GoodIn wq_X6_takeField (wsV RX6 59 RX6 yX6_takeNumber wq_X6_takeNumber) := goodIn_app (goodIn_r _ [25, 26, 27, 8] rfl rfl) (goodIn_ca (goodIn_ca (goodIn_ca (goodIn_ca (goodIn_r _ [255, 37, 45, 46, 47, 8, 75, 76, 77, 256, 257, 258, 4, 215, 216, 217, 78, 79, 80, 59, 60, 61, 87, 36, 41, 42, 43, 44, 56, 55, 57, 259, 33, 227, 88] rfl rfl) gs_wq_X6_takeField_wsX60) gs_wq_X6_takeField_wsX00) gs_wq_X6_takeField_wsX50) gs_wq_X6_takeField_wsX10)
set_option maxRecDepth 20000 in
theorem gq_X6_takeField_X0_init_58 : GoodIn wq_X6_takeField (wq_X0_init) := (goodIn_ca (goodIn_r _ [260, 261, 113, 114, 262, 82, 263, 264, 265, 266, 267] rfl rfl) gs_wq_X6_takeField_wsX00)
set_option maxHeartbeats 4000000 in
set_option maxRecDepth 100000 in
theorem c_X6_takeField (l : Launch) (dC : Nat → ClassId) (dI : Nat → Nat → Nat) (ka ad : Nat → Nat) (ct : Nat → ClassId) (h0 : Nat) (p0 : Int32) (p1 : Option Nat) (st st' : CS) (r : Int32) (hf : fX6_takeField h0 p0 p1 st = some (r, st')) (sz : Nat) : Met l yX6_takeField wq_X6_takeField ({ frames := 8, cells := (qn st' - qn st), slots := (qs st' - qs st), locals := 229 }) (va_Pc [.ref (ad h0), .int p0, va_rf (Option.map ad p1)] (PrC (dC, dI) ct ka ad st sz)) (va_Qi (fun r' (_ : Unit) => r' = r) (fun _ => CB (dC, dI) ct ka ad st' (aC ad st sz)) (aC ad st sz)) (qn st' - qn st) (qs st' - qs st) (aC ad st sz) := by
  refine Met.ofW (cc := cX6_takeField) (maxL := 6) (ret := (some .boolean)) (by decide) rfl ?_
  intro p e s m args below meth c s₁ B hml hv
  obtain ⟨rfl, hsz, hw0, hK, hN, hZ, hC, hR, hL, hw1, hw2⟩ := hv
  have hx := B.exec
  have hb := B.bytes
  have hr := B.returns
  have hts := atoms_spec (ws := wq_X6_takeField) B.pre
  have hown : s.vm.findClass RX6 = some m.cls := findClass_of_methodNamed B.named
  have iRX0 : ∀ w ∈ u_ws RX0 TX0 7, w ∈ wq_X6_takeField := fun w h => List.mem_cons_of_mem _ (List.mem_append_left _ (List.mem_append_left _ (List.mem_append_left _ (List.mem_append_left _ (List.mem_append_left _ (List.mem_append_right _ h))))))
  subst hsz
  have hp : Cp (dC, dI) ka ad ct (aC ad st s.heap.size) s.heap st s.heap [] := ⟨fun i a b => ⟨hw0 i a b, Or.inl ⟨i, a, b, rfl⟩⟩, va_S.rf, hw1, hw2⟩
  generalize hAe : aC ad st s.heap.size = A at hp hZ hC ⊢
  have hA : ∀ q : Nat, s.heap.size ≤ q → A q := fun q h => by rw [← hAe]; exact Or.inr h
  have hl := lv_entry ([.ref (ad h0), .int p0, va_rf (Option.map ad p1)]) (n := 6) (by simp [lg_sl, rf_cat, vc_i, vc_l, vc_r, vc_n])
  rw [lg_entry_eq]
  generalize (lg_sl ([.ref (ad h0), .int p0, va_rf (Option.map ad p1)]) ++ List.replicate (6 - (lg_sl ([.ref (ad h0), .int p0, va_rf (Option.map ad p1)])).length) Slot.unset).toArray = ls at hl ⊢
  have hl : lv_has ls 6 [(0, .ref (ad h0)), (1, .int p0), (2, va_rf (Option.map ad p1))] := by simpa [lv_args, rf_cat, vc_i, vc_l, vc_r, vc_n] using hl
  have hm : Mo st st := Mo.rf
  refine W.widen (k := qn st - qn st) (n := qs st - qs st) (Nat.zero_le _) (Nat.zero_le _) ?_
  refine W_blkA (fun (u : Int32 × CS) H locs ls => match u with | (s0, gs) => fX6_takeField_91 h0 s0 gs = some (r, st') ∧ Cp (dC, dI) ka ad ct A s.heap gs H locs ∧ lv_has ls 6 [] ∧ Mo st gs) (fun (u : Int32 × CS) ls => match u with | (s0, gs) => F0 m 91 ls [.int s0]) (fun (u : Int32 × CS) => match u with | (s0, gs) => qn gs - qn st) (fun (u : Int32 × CS) => match u with | (s0, gs) => qs gs - qs st) ?_ (fun J91 => ?_)
  · intro u H locs ls hu
    obtain ⟨s0, gs⟩ := u
    obtain ⟨hf, hp, hl, hm⟩ := hu
    show W p l e _ s m _ below meth c _ _ (qn gs - qn st) (qs gs - qs st) _ (F0 m 91 ls [.int s0])
    unfold fX6_takeField_91 at hf
    refine lv_if_eq (tgt := 98) hx hb dX6_takeField_91 (by decide) (fun c_1 => ?_) (fun c_1 => ?_)
    · have hf := pif_t c_1 hf
      refine lv_iconst (v := 0) hx hb dX6_takeField_98 (by decide) ?_
      obtain ⟨e1, e2⟩ := pr_some hf
      refine W.widen (k := qn st' - qn st) (n := qs st' - qs st) (by rw [e2]; exact Nat.le_refl _) (by rw [e2]; exact Nat.le_refl _) ?_
      exact W.zret (v := 0) hx hb hr rfl (fun t ht hW => ⟨⟨0, (), rfl, e1, Cp.end e2 hp ht⟩, hp.2.1.F ht⟩) hp.2.1.2.2 dX6_takeField_99
    · have hf := pif_f c_1 hf
      refine lv_iconst (v := 1) hx hb dX6_takeField_94 (by decide) ?_
      refine lv_goto (tgt := 99) hx hb dX6_takeField_95 (by decide) ?_
      obtain ⟨e1, e2⟩ := pr_some hf
      refine W.widen (k := qn st' - qn st) (n := qs st' - qs st) (by rw [e2]; exact Nat.le_refl _) (by rw [e2]; exact Nat.le_refl _) ?_
      exact W.zret (v := 1) hx hb hr rfl (fun t ht hW => ⟨⟨1, (), rfl, e1, Cp.end e2 hp ht⟩, hp.2.1.F ht⟩) hp.2.1.2.2 dX6_takeField_99
  refine W_blkA (fun (u : (Option Nat) × (Option Nat) × Int32 × CS) H locs ls => match u with | (l2, l3, s0, gs) => fX6_takeField_83 h0 l2 l3 s0 gs = some (r, st') ∧ Cp (dC, dI) ka ad ct A s.heap gs H locs ∧ lv_has ls 6 [(2, va_rf (Option.map ad l2)), (3, va_rf (Option.map ad l3))] ∧ Mo st gs) (fun (u : (Option Nat) × (Option Nat) × Int32 × CS) ls => match u with | (l2, l3, s0, gs) => F0 m 83 ls [.int s0]) (fun (u : (Option Nat) × (Option Nat) × Int32 × CS) => match u with | (l2, l3, s0, gs) => qn gs - qn st) (fun (u : (Option Nat) × (Option Nat) × Int32 × CS) => match u with | (l2, l3, s0, gs) => qs gs - qs st) ?_ (fun J83 => ?_)
  · intro u H locs ls hu
    obtain ⟨l2, l3, s0, gs⟩ := u
    obtain ⟨hf, hp, hl, hm⟩ := hu
    show W p l e _ s m _ below meth c _ _ (qn gs - qn st) (qs gs - qs st) _ (F0 m 83 ls [.int s0])
    unfold fX6_takeField_83 at hf
    refine lv_if_eq (tgt := 98) hx hb dX6_takeField_83 (by decide) (fun c_2 => ?_) (fun c_2 => ?_)
    · have hf := pif_t c_2 hf
      refine lv_iconst (v := 0) hx hb dX6_takeField_98 (by decide) ?_
      obtain ⟨e1, e2⟩ := pr_some hf
      refine W.widen (k := qn st' - qn st) (n := qs st' - qs st) (by rw [e2]; exact Nat.le_refl _) (by rw [e2]; exact Nat.le_refl _) ?_
      exact W.zret (v := 0) hx hb hr rfl (fun t ht hW => ⟨⟨0, (), rfl, e1, Cp.end e2 hp ht⟩, hp.2.1.F ht⟩) hp.2.1.2.2 dX6_takeField_99
    · have hf := pif_f c_2 hf
      refine o_aload_n hx hb dX6_takeField_86 rfl (lv_at hl 0 rfl) ?_
      refine o_aload_n hx hb dX6_takeField_87 rfl (lv_at hl 1 rfl) ?_
      obtain ⟨a_3, ha_4, hf⟩ := ono_some hf
      refine o_at1 ha_4 ?_
      obtain ⟨hk_5, hf⟩ := gd_some hf
      obtain ⟨r_8, st_6, hc_7, hf⟩ := bnd_some hf
      have hmc := (mo_X1_add a_3 l3 _ _ _ hc_7).mo
      have hmr := mo_X6_takeField_91 h0 _ _ _ _ hf
      refine q_ci hp hA (va_runV (As := [va_rf (Option.map ad l3)]) (rest := []) ⟨hx, hb, hml, hown, hts⟩ (c_X1_add l dC dI ka ad ct a_3 l3 _ _ _ hc_7 _) (cwV 1 hts gq_X6_takeField_X1_add_90 rfl rfl rfl (by decide +kernel) ⟨Nat.le_of_ble_eq_true rfl, Nat.le_of_ble_eq_true rfl⟩) ⟨PrC.blind _, q_rv3 hK hp hC hk_5, q_pre hp hK hN hZ hC hR hL hA⟩ rfl rfl hl.1 rfl (lv_room (Nat.le_of_ble_eq_true rfl)) dX6_takeField_88 ⟨by show qn gs - qn st + 0 ≤ qn st' - qn st; have := hmr.1; have := hm.1; have := hmc.1; omega, by show qs gs - qs st + 0 ≤ qs st' - qs st; have := hmr.2.1; have := hm.2.1; have := hmc.2.1; omega⟩) (fun H locs hp => ?_)
      have hk_5 : qk st_6 a_3 = 4 := by rw [(mo_X1_add a_3 l3 _ _ _ hc_7).2.2.1]; exact hk_5
      refine W.widen (k := qn st_6 - qn st) (n := qs st_6 - qs st) (by have := hmc.1; omega) (by have := hmc.2.1; omega) ?_
      have hm := hm.tr hmc
      exact J91 (r_8, st_6) _ _ _ ⟨hf, hp, (lv_sub hl [] rfl), hm⟩
  refine W_blkA (fun (u : (Option Nat) × (Option Nat) × Int32 × CS) H locs ls => match u with | (l2, l3, s0, gs) => fX6_takeField_72 h0 l2 l3 s0 gs = some (r, st') ∧ Cp (dC, dI) ka ad ct A s.heap gs H locs ∧ lv_has ls 6 [(0, .ref (ad h0)), (2, va_rf (Option.map ad l2)), (3, va_rf (Option.map ad l3))] ∧ Mo st gs) (fun (u : (Option Nat) × (Option Nat) × Int32 × CS) ls => match u with | (l2, l3, s0, gs) => F0 m 72 ls [.int s0]) (fun (u : (Option Nat) × (Option Nat) × Int32 × CS) => match u with | (l2, l3, s0, gs) => qn gs - qn st) (fun (u : (Option Nat) × (Option Nat) × Int32 × CS) => match u with | (l2, l3, s0, gs) => qs gs - qs st) ?_ (fun J72 => ?_)
  · intro u H locs ls hu
    obtain ⟨l2, l3, s0, gs⟩ := u
    obtain ⟨hf, hp, hl, hm⟩ := hu
    show W p l e _ s m _ below meth c _ _ (qn gs - qn st) (qs gs - qs st) _ (F0 m 72 ls [.int s0])
    unfold fX6_takeField_72 at hf
    refine lv_istore (i := 5) (lv' := [(5, .int s0), (0, .ref (ad h0)), (2, va_rf (Option.map ad l2)), (3, va_rf (Option.map ad l3))]) hx hb dX6_takeField_72 hl (by decide) rfl (fun ls hl => ?_)
    refine lv_iload hx hb dX6_takeField_74 (lv_at hl 0 rfl) ?_
    refine lv_if_eq (tgt := 98) hx hb dX6_takeField_76 (by decide) (fun c_9 => ?_) (fun c_9 => ?_)
    · have hf := pif_t c_9 hf
      refine lv_iconst (v := 0) hx hb dX6_takeField_98 (by decide) ?_
      obtain ⟨e1, e2⟩ := pr_some hf
      refine W.widen (k := qn st' - qn st) (n := qs st' - qs st) (by rw [e2]; exact Nat.le_refl _) (by rw [e2]; exact Nat.le_refl _) ?_
      exact W.zret (v := 0) hx hb hr rfl (fun t ht hW => ⟨⟨0, (), rfl, e1, Cp.end e2 hp ht⟩, hp.2.1.F ht⟩) hp.2.1.2.2 dX6_takeField_99
    · have hf := pif_f c_9 hf
      refine lv_aload_n hx hb dX6_takeField_79 rfl (lv_at hl 1 rfl) ?_
      obtain ⟨hk_10, hf⟩ := gd_some hf
      obtain ⟨r_13, st_11, hc_12, hf⟩ := bnd_some hf
      have hmc := (mo_X6_takeClose h0 _ _ _ hc_12).mo
      have hmr := mo_X6_takeField_83 h0 _ _ _ _ _ _ hf
      refine q_ci hp hA (va_runV (As := []) (rest := []) ⟨hx, hb, hml, hown, hts⟩ (c_X6_takeClose l dC dI ka ad ct h0 _ _ _ hc_12 _) (cwV 0 hts gq_X6_takeField_X6_takeClose_87 rfl rfl rfl (by decide +kernel) ⟨Nat.le_of_ble_eq_true rfl, Nat.le_of_ble_eq_true rfl⟩) ⟨PrC.blind _, q_rv8 hK hp hC hk_10, q_pre hp hK hN hZ hC hR hL hA⟩ rfl rfl hl.1 rfl (lv_room (Nat.le_of_ble_eq_true rfl)) dX6_takeField_80 ⟨by show qn gs - qn st + 0 ≤ qn st' - qn st; have := hmr.1; have := hm.1; have := hmc.1; omega, by show qs gs - qs st + 0 ≤ qs st' - qs st; have := hmr.2.1; have := hm.2.1; have := hmc.2.1; omega⟩) (fun H locs hp => ?_)
      have hk_10 : qk st_11 h0 = 9 := by rw [(mo_X6_takeClose h0 _ _ _ hc_12).2.2.1]; exact hk_10
      refine W.widen (k := qn st_11 - qn st) (n := qs st_11 - qs st) (by have := hmc.1; omega) (by have := hmc.2.1; omega) ?_
      have hm := hm.tr hmc
      exact J83 (l2, l3, r_13, st_11) _ _ _ ⟨hf, hp, (lv_sub hl [2, 3] rfl), hm⟩
  refine W_blkA (fun (u : (Option Nat) × (Option Nat) × CS) H locs ls => match u with | (l2, l3, gs) => fX6_takeField_71 h0 l2 l3 gs = some (r, st') ∧ Cp (dC, dI) ka ad ct A s.heap gs H locs ∧ lv_has ls 6 [(0, .ref (ad h0)), (2, va_rf (Option.map ad l2)), (3, va_rf (Option.map ad l3))] ∧ Mo st gs) (fun (u : (Option Nat) × (Option Nat) × CS) ls => match u with | (l2, l3, gs) => F0 m 71 ls []) (fun (u : (Option Nat) × (Option Nat) × CS) => match u with | (l2, l3, gs) => qn gs - qn st) (fun (u : (Option Nat) × (Option Nat) × CS) => match u with | (l2, l3, gs) => qs gs - qs st) ?_ (fun J71 => ?_)
  · intro u H locs ls hu
    obtain ⟨l2, l3, gs⟩ := u
    obtain ⟨hf, hp, hl, hm⟩ := hu
    show W p l e _ s m _ below meth c _ _ (qn gs - qn st) (qs gs - qs st) _ (F0 m 71 ls [])
    unfold fX6_takeField_71 at hf
    refine lv_iconst (v := 0) hx hb dX6_takeField_71 (by decide) ?_
    exact J72 (l2, l3, 0, gs) _ _ _ ⟨hf, hp, (lv_sub hl [0, 1, 2] rfl), hm⟩
  refine W_blkA (fun (u : (Option Nat) × (Option Nat) × CS) H locs ls => match u with | (l2, l3, gs) => fX6_takeField_67 h0 l2 l3 gs = some (r, st') ∧ Cp (dC, dI) ka ad ct A s.heap gs H locs ∧ lv_has ls 6 [(0, .ref (ad h0)), (2, va_rf (Option.map ad l2)), (3, va_rf (Option.map ad l3))] ∧ Mo st gs) (fun (u : (Option Nat) × (Option Nat) × CS) ls => match u with | (l2, l3, gs) => F0 m 67 ls []) (fun (u : (Option Nat) × (Option Nat) × CS) => match u with | (l2, l3, gs) => qn gs - qn st) (fun (u : (Option Nat) × (Option Nat) × CS) => match u with | (l2, l3, gs) => qs gs - qs st) ?_ (fun J67 => ?_)
  · intro u H locs ls hu
    obtain ⟨l2, l3, gs⟩ := u
    obtain ⟨hf, hp, hl, hm⟩ := hu
    show W p l e _ s m _ below meth c _ _ (qn gs - qn st) (qs gs - qs st) _ (F0 m 67 ls [])
    unfold fX6_takeField_67 at hf
    refine lv_iconst (v := 1) hx hb dX6_takeField_67 (by decide) ?_
    refine lv_goto (tgt := 72) hx hb dX6_takeField_68 (by decide) ?_
    exact J72 (l2, l3, 1, gs) _ _ _ ⟨hf, hp, (lv_sub hl [0, 1, 2] rfl), hm⟩
  refine W_blkA (fun (u : (Option Nat) × (Option Nat) × Int32 × CS) H locs ls => match u with | (l2, l3, s0, gs) => fX6_takeField_64 h0 l2 l3 s0 gs = some (r, st') ∧ Cp (dC, dI) ka ad ct A s.heap gs H locs ∧ lv_has ls 6 [(0, .ref (ad h0)), (2, va_rf (Option.map ad l2)), (3, va_rf (Option.map ad l3))] ∧ Mo st gs) (fun (u : (Option Nat) × (Option Nat) × Int32 × CS) ls => match u with | (l2, l3, s0, gs) => F0 m 64 ls [.int s0]) (fun (u : (Option Nat) × (Option Nat) × Int32 × CS) => match u with | (l2, l3, s0, gs) => qn gs - qn st) (fun (u : (Option Nat) × (Option Nat) × Int32 × CS) => match u with | (l2, l3, s0, gs) => qs gs - qs st) ?_ (fun J64 => ?_)
  · intro u H locs ls hu
    obtain ⟨l2, l3, s0, gs⟩ := u
    obtain ⟨hf, hp, hl, hm⟩ := hu
    show W p l e _ s m _ below meth c _ _ (qn gs - qn st) (qs gs - qs st) _ (F0 m 64 ls [.int s0])
    unfold fX6_takeField_64 at hf
    refine lv_if_eq (tgt := 71) hx hb dX6_takeField_64 (by decide) (fun c_14 => ?_) (fun c_14 => ?_)
    · have hf := pif_t c_14 hf
      exact J71 (l2, l3, gs) _ _ _ ⟨hf, hp, (lv_sub hl [0, 1, 2] rfl), hm⟩
    · have hf := pif_f c_14 hf
      exact J67 (l2, l3, gs) _ _ _ ⟨hf, hp, (lv_sub hl [0, 1, 2] rfl), hm⟩
  refine W_blkA (fun (u : (Option Nat) × (Option Nat) × Int32 × CS) H locs ls => match u with | (l2, l3, s0, gs) => fX6_takeField_56 h0 l2 l3 s0 gs = some (r, st') ∧ Cp (dC, dI) ka ad ct A s.heap gs H locs ∧ lv_has ls 6 [(0, .ref (ad h0)), (2, va_rf (Option.map ad l2)), (3, va_rf (Option.map ad l3))] ∧ Mo st gs) (fun (u : (Option Nat) × (Option Nat) × Int32 × CS) ls => match u with | (l2, l3, s0, gs) => F0 m 56 ls [.int s0]) (fun (u : (Option Nat) × (Option Nat) × Int32 × CS) => match u with | (l2, l3, s0, gs) => qn gs - qn st) (fun (u : (Option Nat) × (Option Nat) × Int32 × CS) => match u with | (l2, l3, s0, gs) => qs gs - qs st) ?_ (fun J56 => ?_)
  · intro u H locs ls hu
    obtain ⟨l2, l3, s0, gs⟩ := u
    obtain ⟨hf, hp, hl, hm⟩ := hu
    show W p l e _ s m _ below meth c _ _ (qn gs - qn st) (qs gs - qs st) _ (F0 m 56 ls [.int s0])
    unfold fX6_takeField_56 at hf
    refine lv_if_eq (tgt := 71) hx hb dX6_takeField_56 (by decide) (fun c_15 => ?_) (fun c_15 => ?_)
    · have hf := pif_t c_15 hf
      exact J71 (l2, l3, gs) _ _ _ ⟨hf, hp, (lv_sub hl [0, 1, 2] rfl), hm⟩
    · have hf := pif_f c_15 hf
      refine lv_aload_n hx hb dX6_takeField_59 rfl (lv_at hl 0 rfl) ?_
      refine o_aload_n hx hb dX6_takeField_60 rfl (lv_at hl 2 rfl) ?_
      obtain ⟨hk_16, hf⟩ := gd_some hf
      obtain ⟨r_19, st_17, hc_18, hf⟩ := bnd_some hf
      have lthk_16 := hp.2.2.1.lt (i := h0) (by rw [hk_16]; decide)
      have hmc := (mo_X6_takeDefault h0 l3 _ _ _ hc_18)
      have hmr := mo_X6_takeField_64 h0 _ _ _ _ _ _ hf
      refine q_ci hp hA (va_runV (As := [va_rf (Option.map ad l3)]) (rest := []) ⟨hx, hb, hml, hown, hts⟩ (c_X6_takeDefault l dC dI ka ad ct h0 l3 _ _ _ hc_18 _) (cwV 1 hts gq_X6_takeField_X6_takeDefault_84 rfl rfl rfl (by decide +kernel) ⟨Nat.le_of_ble_eq_true rfl, Nat.le_of_ble_eq_true rfl⟩) ⟨PrC.blind _, q_rv8 hK hp hC hk_16, q_pre hp hK hN hZ hC hR hL hA⟩ rfl rfl hl.1 rfl (lv_room (Nat.le_of_ble_eq_true rfl)) dX6_takeField_61 ⟨by show qn gs - qn st + (qn st_17 - qn gs) ≤ qn st' - qn st; have := hmr.1; have := hm.1; have := hmc.1; omega, by show qs gs - qs st + (qs st_17 - qs gs) ≤ qs st' - qs st; have := hmr.2.1; have := hm.2.1; have := hmc.2.1; omega⟩) (fun H locs hp => ?_)
      have hk_16 : qk st_17 h0 = 9 := ((mo_X6_takeDefault h0 l3 _ _ _ hc_18).2.2 _ lthk_16).1.trans hk_16
      refine W.widen (k := qn st_17 - qn st) (n := qs st_17 - qs st) (by have := hm.1; have := hmc.1; omega) (by have := hm.2.1; have := hmc.2.1; omega) ?_
      have hm := hm.tr hmc
      exact J64 (l2, l3, r_19, st_17) _ _ _ ⟨hf, hp, (lv_sub hl [0, 1, 2] rfl), hm⟩
  refine W_blkA (fun (u : (Option Nat) × (Option Nat) × Int32 × CS) H locs ls => match u with | (l2, l3, s0, gs) => fX6_takeField_48 h0 l2 l3 s0 gs = some (r, st') ∧ Cp (dC, dI) ka ad ct A s.heap gs H locs ∧ lv_has ls 6 [(0, .ref (ad h0)), (2, va_rf (Option.map ad l2)), (3, va_rf (Option.map ad l3))] ∧ Mo st gs) (fun (u : (Option Nat) × (Option Nat) × Int32 × CS) ls => match u with | (l2, l3, s0, gs) => F0 m 48 ls [.int s0]) (fun (u : (Option Nat) × (Option Nat) × Int32 × CS) => match u with | (l2, l3, s0, gs) => qn gs - qn st) (fun (u : (Option Nat) × (Option Nat) × Int32 × CS) => match u with | (l2, l3, s0, gs) => qs gs - qs st) ?_ (fun J48 => ?_)
  · intro u H locs ls hu
    obtain ⟨l2, l3, s0, gs⟩ := u
    obtain ⟨hf, hp, hl, hm⟩ := hu
    show W p l e _ s m _ below meth c _ _ (qn gs - qn st) (qs gs - qs st) _ (F0 m 48 ls [.int s0])
    unfold fX6_takeField_48 at hf
    refine lv_if_eq (tgt := 71) hx hb dX6_takeField_48 (by decide) (fun c_20 => ?_) (fun c_20 => ?_)
    · have hf := pif_t c_20 hf
      exact J71 (l2, l3, gs) _ _ _ ⟨hf, hp, (lv_sub hl [0, 1, 2] rfl), hm⟩
    · have hf := pif_f c_20 hf
      refine lv_aload_n hx hb dX6_takeField_51 rfl (lv_at hl 0 rfl) ?_
      refine o_aload_n hx hb dX6_takeField_52 rfl (lv_at hl 2 rfl) ?_
      obtain ⟨hk_21, hf⟩ := gd_some hf
      obtain ⟨r_24, st_22, hc_23, hf⟩ := bnd_some hf
      have lthk_21 := hp.2.2.1.lt (i := h0) (by rw [hk_21]; decide)
      have hmc := (mo_X6_takeGroup h0 l3 _ _ _ hc_23)
      have hmr := mo_X6_takeField_56 h0 _ _ _ _ _ _ hf
      refine q_ci hp hA (va_runV (As := [va_rf (Option.map ad l3)]) (rest := []) ⟨hx, hb, hml, hown, hts⟩ (c_X6_takeGroup l dC dI ka ad ct h0 l3 _ _ _ hc_23 _) (cwV 1 hts gq_X6_takeField_X6_takeGroup_80 rfl rfl rfl (by decide +kernel) ⟨Nat.le_of_ble_eq_true rfl, Nat.le_of_ble_eq_true rfl⟩) ⟨PrC.blind _, q_rv8 hK hp hC hk_21, q_pre hp hK hN hZ hC hR hL hA⟩ rfl rfl hl.1 rfl (lv_room (Nat.le_of_ble_eq_true rfl)) dX6_takeField_53 ⟨by show qn gs - qn st + (qn st_22 - qn gs) ≤ qn st' - qn st; have := hmr.1; have := hm.1; have := hmc.1; omega, by show qs gs - qs st + (qs st_22 - qs gs) ≤ qs st' - qs st; have := hmr.2.1; have := hm.2.1; have := hmc.2.1; omega⟩) (fun H locs hp => ?_)
      have hk_21 : qk st_22 h0 = 9 := ((mo_X6_takeGroup h0 l3 _ _ _ hc_23).2.2 _ lthk_21).1.trans hk_21
      refine W.widen (k := qn st_22 - qn st) (n := qs st_22 - qs st) (by have := hm.1; have := hmc.1; omega) (by have := hm.2.1; have := hmc.2.1; omega) ?_
      have hm := hm.tr hmc
      exact J56 (l2, l3, r_24, st_22) _ _ _ ⟨hf, hp, (lv_sub hl [0, 1, 2] rfl), hm⟩
  refine W_blkA (fun (u : Int32 × (Option Nat) × (Option Nat) × Int32 × CS) H locs ls => match u with | (l1, l2, l3, s0, gs) => fX6_takeField_35 h0 l1 l2 l3 s0 gs = some (r, st') ∧ Cp (dC, dI) ka ad ct A s.heap gs H locs ∧ lv_has ls 6 [(0, .ref (ad h0)), (1, .int l1), (2, va_rf (Option.map ad l2)), (3, va_rf (Option.map ad l3))] ∧ Mo st gs) (fun (u : Int32 × (Option Nat) × (Option Nat) × Int32 × CS) ls => match u with | (l1, l2, l3, s0, gs) => F0 m 35 ls [.int s0]) (fun (u : Int32 × (Option Nat) × (Option Nat) × Int32 × CS) => match u with | (l1, l2, l3, s0, gs) => qn gs - qn st) (fun (u : Int32 × (Option Nat) × (Option Nat) × Int32 × CS) => match u with | (l1, l2, l3, s0, gs) => qs gs - qs st) ?_ (fun J35 => ?_)
  · intro u H locs ls hu
    obtain ⟨l1, l2, l3, s0, gs⟩ := u
    obtain ⟨hf, hp, hl, hm⟩ := hu
    show W p l e _ s m _ below meth c _ _ (qn gs - qn st) (qs gs - qs st) _ (F0 m 35 ls [.int s0])
    unfold fX6_takeField_35 at hf
    refine lv_istore (i := 4) (lv' := [(4, .int s0), (0, .ref (ad h0)), (1, .int l1), (2, va_rf (Option.map ad l2)), (3, va_rf (Option.map ad l3))]) hx hb dX6_takeField_35 hl (by decide) (by simp [rf_cat, vc_i, vc_l, vc_r, vc_n]) (fun ls hl => ?_)
    refine lv_iload hx hb dX6_takeField_37 (lv_at hl 0 rfl) ?_
    refine lv_if_ne (tgt := 67) hx hb dX6_takeField_39 (by decide) (fun c_25 => ?_) (fun c_25 => ?_)
    · have hf := pif_f c_25 hf
      exact J67 (l2, l3, gs) _ _ _ ⟨hf, hp, (lv_sub hl [1, 3, 4] rfl), hm⟩
    · have hf := pif_t c_25 hf
      refine lv_aload_n hx hb dX6_takeField_42 rfl (lv_at hl 1 rfl) ?_
      refine o_aload_n hx hb dX6_takeField_43 rfl (lv_at hl 4 rfl) ?_
      refine lv_iload_n hx hb dX6_takeField_44 rfl (lv_at hl 2 rfl) ?_
      obtain ⟨hk_26, hf⟩ := gd_some hf
      obtain ⟨r_29, st_27, hc_28, hf⟩ := bnd_some hf
      have lthk_26 := hp.2.2.1.lt (i := h0) (by rw [hk_26]; decide)
      have hmc := (mo_X6_takeKind h0 l3 l1 _ _ _ hc_28)
      have hmr := mo_X6_takeField_48 h0 _ _ _ _ _ _ hf
      refine q_ci hp hA (va_runV (As := [va_rf (Option.map ad l3), .int l1]) (rest := []) ⟨hx, hb, hml, hown, hts⟩ (c_X6_takeKind l dC dI ka ad ct h0 l3 l1 _ _ _ hc_28 _) (cwV 2 hts gq_X6_takeField_X6_takeKind_76 rfl rfl rfl (by decide +kernel) ⟨Nat.le_of_ble_eq_true rfl, Nat.le_of_ble_eq_true rfl⟩) ⟨PrC.blind _, q_rv8 hK hp hC hk_26, q_pre hp hK hN hZ hC hR hL hA⟩ rfl rfl hl.1 rfl (lv_room (Nat.le_of_ble_eq_true rfl)) dX6_takeField_45 ⟨by show qn gs - qn st + (qn st_27 - qn gs) ≤ qn st' - qn st; have := hmr.1; have := hm.1; have := hmc.1; omega, by show qs gs - qs st + (qs st_27 - qs gs) ≤ qs st' - qs st; have := hmr.2.1; have := hm.2.1; have := hmc.2.1; omega⟩) (fun H locs hp => ?_)
      have hk_26 : qk st_27 h0 = 9 := ((mo_X6_takeKind h0 l3 l1 _ _ _ hc_28).2.2 _ lthk_26).1.trans hk_26
      refine W.widen (k := qn st_27 - qn st) (n := qs st_27 - qs st) (by have := hm.1; have := hmc.1; omega) (by have := hm.2.1; have := hmc.2.1; omega) ?_
      have hm := hm.tr hmc
      exact J48 (l2, l3, r_29, st_27) _ _ _ ⟨hf, hp, (lv_sub hl [1, 3, 4] rfl), hm⟩
  refine W_blkA (fun (u : Int32 × (Option Nat) × (Option Nat) × Int32 × CS) H locs ls => match u with | (l1, l2, l3, s0, gs) => fX6_takeField_23 h0 l1 l2 l3 s0 gs = some (r, st') ∧ Cp (dC, dI) ka ad ct A s.heap gs H locs ∧ lv_has ls 6 [(0, .ref (ad h0)), (1, .int l1), (2, va_rf (Option.map ad l2)), (3, va_rf (Option.map ad l3))] ∧ Mo st gs) (fun (u : Int32 × (Option Nat) × (Option Nat) × Int32 × CS) ls => match u with | (l1, l2, l3, s0, gs) => F0 m 23 ls [.int s0]) (fun (u : Int32 × (Option Nat) × (Option Nat) × Int32 × CS) => match u with | (l1, l2, l3, s0, gs) => qn gs - qn st) (fun (u : Int32 × (Option Nat) × (Option Nat) × Int32 × CS) => match u with | (l1, l2, l3, s0, gs) => qs gs - qs st) ?_ (fun J23 => ?_)
  · intro u H locs ls hu
    obtain ⟨l1, l2, l3, s0, gs⟩ := u
    obtain ⟨hf, hp, hl, hm⟩ := hu
    show W p l e _ s m _ below meth c _ _ (qn gs - qn st) (qs gs - qs st) _ (F0 m 23 ls [.int s0])
    unfold fX6_takeField_23 at hf
    refine lv_if_ne (tgt := 28) hx hb dX6_takeField_23 (by decide) (fun c_30 => ?_) (fun c_30 => ?_)
    · have hf := pif_f c_30 hf
      refine o_aload_n hx hb dX6_takeField_28 rfl (lv_at hl 3 rfl) ?_
      obtain ⟨a_31, ha_32, hf⟩ := ono_some hf
      refine o_at ha_32 ?_
      obtain ⟨hk_33, hf⟩ := gd_some hf
      refine q_gp (ci := 2) (C := RX0) (T := TX0) (N := 7) (k := 4) hx hb hts iRX0 hown hK hp hk_33 (by decide) rfl rfl (by decide) rfl (Or.inr ⟨_, va_Nw.use rfl (hN.1 (.fieldLinkNest RX6 66 "RecordBench$Field" "name" "Ljava/lang/String;" "RecordBench") (by decide +kernel))⟩) (fun _ h9 => h9) dX6_takeField_29 ?_
      obtain ⟨a_34, ha_35, hf⟩ := ono_some hf
      refine o_at ha_35 ?_
      obtain ⟨hk_36, hf⟩ := gd_some hf
      obtain ⟨r_39, st_37, hc_38, hf⟩ := bnd_some hf
      have hmc := (mo_J0_isEmpty_aae02 a_34 _ _ _ hc_38).mo
      have hmr := mo_X6_takeField_35 h0 _ _ _ _ _ _ _ hf
      refine q_ci hp hA (va_runV (As := []) (rest := []) ⟨hx, hb, hml, hown, hts⟩ (c_J0_isEmpty_aae02 l dC dI ka ad ct a_34 _ _ _ hc_38 _) (cwV 0 hts gq_X6_takeField_J0_isEmpty_aae02_70 rfl rfl rfl (by decide +kernel) ⟨Nat.le_of_ble_eq_true rfl, Nat.le_of_ble_eq_true rfl⟩) ⟨PrC.blind _, q_recv (ci := 0) hK hp hC hk_36 (by decide) rfl (fun _ => rfl), q_pre hp hK hN hZ hC hR hL hA⟩ rfl rfl hl.1 rfl (lv_room (Nat.le_of_ble_eq_true rfl)) dX6_takeField_32 ⟨by show qn gs - qn st + 0 ≤ qn st' - qn st; have := hmr.1; have := hm.1; have := hmc.1; omega, by show qs gs - qs st + 0 ≤ qs st' - qs st; have := hmr.2.1; have := hm.2.1; have := hmc.2.1; omega⟩) (fun H locs hp => ?_)
      have hk_33 : qk st_37 a_31 = 3 := by rw [(mo_J0_isEmpty_aae02 a_34 _ _ _ hc_38).2.2.1]; exact hk_33
      have hk_36 : qk st_37 a_34 = 1 := by rw [(mo_J0_isEmpty_aae02 a_34 _ _ _ hc_38).2.2.1]; exact hk_36
      refine W.widen (k := qn st_37 - qn st) (n := qs st_37 - qs st) (by have := hmc.1; omega) (by have := hmc.2.1; omega) ?_
      have hm := hm.tr hmc
      exact J35 (l1, l2, l3, r_39, st_37) _ _ _ ⟨hf, hp, (lv_sub hl [0, 1, 2, 3] rfl), hm⟩
    · have hf := pif_t c_30 hf
      refine lv_iconst (v := 0) hx hb dX6_takeField_26 (by decide) ?_
      obtain ⟨e1, e2⟩ := pr_some hf
      refine W.widen (k := qn st' - qn st) (n := qs st' - qs st) (by rw [e2]; exact Nat.le_refl _) (by rw [e2]; exact Nat.le_refl _) ?_
      exact W.zret (v := 0) hx hb hr rfl (fun t ht hW => ⟨⟨0, (), rfl, e1, Cp.end e2 hp ht⟩, hp.2.1.F ht⟩) hp.2.1.2.2 dX6_takeField_27
  refine W_blkA (fun (u : Int32 × (Option Nat) × (Option Nat) × Int32 × CS) H locs ls => match u with | (l1, l2, l3, s0, gs) => fX6_takeField_14 h0 l1 l2 l3 s0 gs = some (r, st') ∧ Cp (dC, dI) ka ad ct A s.heap gs H locs ∧ lv_has ls 6 [(0, .ref (ad h0)), (1, .int l1), (2, va_rf (Option.map ad l2)), (3, va_rf (Option.map ad l3))] ∧ Mo st gs) (fun (u : Int32 × (Option Nat) × (Option Nat) × Int32 × CS) ls => match u with | (l1, l2, l3, s0, gs) => F0 m 14 ls [.int s0]) (fun (u : Int32 × (Option Nat) × (Option Nat) × Int32 × CS) => match u with | (l1, l2, l3, s0, gs) => qn gs - qn st) (fun (u : Int32 × (Option Nat) × (Option Nat) × Int32 × CS) => match u with | (l1, l2, l3, s0, gs) => qs gs - qs st) ?_ (fun J14 => ?_)
  · intro u H locs ls hu
    obtain ⟨l1, l2, l3, s0, gs⟩ := u
    obtain ⟨hf, hp, hl, hm⟩ := hu
    show W p l e _ s m _ below meth c _ _ (qn gs - qn st) (qs gs - qs st) _ (F0 m 14 ls [.int s0])
    unfold fX6_takeField_14 at hf
    refine lv_if_eq (tgt := 26) hx hb dX6_takeField_14 (by decide) (fun c_40 => ?_) (fun c_40 => ?_)
    · have hf := pif_t c_40 hf
      refine lv_iconst (v := 0) hx hb dX6_takeField_26 (by decide) ?_
      obtain ⟨e1, e2⟩ := pr_some hf
      refine W.widen (k := qn st' - qn st) (n := qs st' - qs st) (by rw [e2]; exact Nat.le_refl _) (by rw [e2]; exact Nat.le_refl _) ?_
      exact W.zret (v := 0) hx hb hr rfl (fun t ht hW => ⟨⟨0, (), rfl, e1, Cp.end e2 hp ht⟩, hp.2.1.F ht⟩) hp.2.1.2.2 dX6_takeField_27
    · have hf := pif_f c_40 hf
      refine lv_aload_n hx hb dX6_takeField_17 rfl (lv_at hl 0 rfl) ?_
      refine o_aload_n hx hb dX6_takeField_18 rfl (lv_at hl 3 rfl) ?_
      refine o_aload_n hx hb dX6_takeField_19 rfl (lv_at hl 2 rfl) ?_
      obtain ⟨hk_41, hf⟩ := gd_some hf
      obtain ⟨r_44, st_42, hc_43, hf⟩ := bnd_some hf
      have lthk_41 := hp.2.2.1.lt (i := h0) (by rw [hk_41]; decide)
      have hmc := (mo_X6_takeName h0 l3 l2 _ _ _ hc_43)
      have hmr := mo_X6_takeField_23 h0 _ _ _ _ _ _ _ hf
      refine q_ci hp hA (va_runV (As := [va_rf (Option.map ad l3), va_rf (Option.map ad l2)]) (rest := []) ⟨hx, hb, hml, hown, hts⟩ (c_X6_takeName l dC dI ka ad ct h0 l3 l2 _ _ _ hc_43 _) (cwV 2 hts gq_X6_takeField_X6_takeName_63 rfl rfl rfl (by decide +kernel) ⟨Nat.le_of_ble_eq_true rfl, Nat.le_of_ble_eq_true rfl⟩) ⟨PrC.blind _, q_rv8 hK hp hC hk_41, q_pre hp hK hN hZ hC hR hL hA⟩ rfl rfl hl.1 rfl (lv_room (Nat.le_of_ble_eq_true rfl)) dX6_takeField_20 ⟨by show qn gs - qn st + (qn st_42 - qn gs) ≤ qn st' - qn st; have := hmr.1; have := hm.1; have := hmc.1; omega, by show qs gs - qs st + (qs st_42 - qs gs) ≤ qs st' - qs st; have := hmr.2.1; have := hm.2.1; have := hmc.2.1; omega⟩) (fun H locs hp => ?_)
      have hk_41 : qk st_42 h0 = 9 := ((mo_X6_takeName h0 l3 l2 _ _ _ hc_43).2.2 _ lthk_41).1.trans hk_41
      refine W.widen (k := qn st_42 - qn st) (n := qs st_42 - qs st) (by have := hm.1; have := hmc.1; omega) (by have := hm.2.1; have := hmc.2.1; omega) ?_
      have hm := hm.tr hmc
      exact J23 (l1, l2, l3, r_44, st_42) _ _ _ ⟨hf, hp, (lv_sub hl [0, 1, 2, 3] rfl), hm⟩
  refine W_blkA (fun (u : Int32 × (Option Nat) × (Option Nat) × CS) H locs ls => match u with | (l1, l2, s0, gs) => fX6_takeField_7 h0 l1 l2 s0 gs = some (r, st') ∧ Cp (dC, dI) ka ad ct A s.heap gs H locs ∧ lv_has ls 6 [(0, .ref (ad h0)), (1, .int l1), (2, va_rf (Option.map ad l2))] ∧ Mo st gs) (fun (u : Int32 × (Option Nat) × (Option Nat) × CS) ls => match u with | (l1, l2, s0, gs) => F0 m 7 ls [va_rf (Option.map ad s0)]) (fun (u : Int32 × (Option Nat) × (Option Nat) × CS) => match u with | (l1, l2, s0, gs) => qn gs - qn st) (fun (u : Int32 × (Option Nat) × (Option Nat) × CS) => match u with | (l1, l2, s0, gs) => qs gs - qs st) ?_ (fun J7 => ?_)
  · intro u H locs ls hu
    obtain ⟨l1, l2, s0, gs⟩ := u
    obtain ⟨hf, hp, hl, hm⟩ := hu
    show W p l e _ s m _ below meth c _ _ (qn gs - qn st) (qs gs - qs st) _ (F0 m 7 ls [va_rf (Option.map ad s0)])
    unfold fX6_takeField_7 at hf
    refine o_astore_n (i := 3) (lv' := [(3, va_rf (Option.map ad s0)), (0, .ref (ad h0)), (1, .int l1), (2, va_rf (Option.map ad l2))]) hx hb dX6_takeField_7 rfl hl (by decide) (by simp [rf_cat, vc_i, vc_l, vc_r, vc_n]) (fun ls hl => ?_)
    refine lv_aload_n hx hb dX6_takeField_8 rfl (lv_at hl 1 rfl) ?_
    refine o_aload_n hx hb dX6_takeField_9 rfl (lv_at hl 0 rfl) ?_
    refine o_aload_n hx hb dX6_takeField_10 rfl (lv_at hl 3 rfl) ?_
    obtain ⟨hk_45, hf⟩ := gd_some hf
    obtain ⟨r_48, st_46, hc_47, hf⟩ := bnd_some hf
    have hmc := (mo_X6_takeNumber h0 s0 l2 _ _ _ hc_47).mo
    have hmr := mo_X6_takeField_14 h0 _ _ _ _ _ _ _ hf
    refine q_ci hp hA (va_runV (As := [va_rf (Option.map ad s0), va_rf (Option.map ad l2)]) (rest := []) ⟨hx, hb, hml, hown, hts⟩ (c_X6_takeNumber l dC dI ka ad ct h0 s0 l2 _ _ _ hc_47 _) (cwV 2 hts gq_X6_takeField_X6_takeNumber_59 rfl rfl rfl (by decide +kernel) ⟨Nat.le_of_ble_eq_true rfl, Nat.le_of_ble_eq_true rfl⟩) ⟨PrC.blind _, q_rv8 hK hp hC hk_45, q_pre hp hK hN hZ hC hR hL hA⟩ rfl rfl hl.1 rfl (lv_room (Nat.le_of_ble_eq_true rfl)) dX6_takeField_11 ⟨by show qn gs - qn st + 0 ≤ qn st' - qn st; have := hmr.1; have := hm.1; have := hmc.1; omega, by show qs gs - qs st + 0 ≤ qs st' - qs st; have := hmr.2.1; have := hm.2.1; have := hmc.2.1; omega⟩) (fun H locs hp => ?_)
    have hk_45 : qk st_46 h0 = 9 := by rw [(mo_X6_takeNumber h0 s0 l2 _ _ _ hc_47).2.2.1]; exact hk_45
    refine W.widen (k := qn st_46 - qn st) (n := qs st_46 - qs st) (by have := hmc.1; omega) (by have := hmc.2.1; omega) ?_
    have hm := hm.tr hmc
    exact J14 (l1, l2, s0, r_48, st_46) _ _ _ ⟨hf, hp, (lv_sub hl [1, 2, 3, 0] rfl), hm⟩
  refine W_blkA (fun (u : Int32 × (Option Nat) × (Option Nat) × CS) H locs ls => match u with | (l1, l2, s0, gs) => fX6_takeField_3 h0 l1 l2 s0 gs = some (r, st') ∧ Cp (dC, dI) ka ad ct A s.heap gs H locs ∧ lv_has ls 6 [(0, .ref (ad h0)), (1, .int l1), (2, va_rf (Option.map ad l2))] ∧ Mo st gs) (fun (u : Int32 × (Option Nat) × (Option Nat) × CS) ls => match u with | (l1, l2, s0, gs) => F0 m 3 ls [va_rf (Option.map ad s0)]) (fun (u : Int32 × (Option Nat) × (Option Nat) × CS) => match u with | (l1, l2, s0, gs) => qn gs - qn st) (fun (u : Int32 × (Option Nat) × (Option Nat) × CS) => match u with | (l1, l2, s0, gs) => qs gs - qs st) ?_ (fun J3 => ?_)
  · intro u H locs ls hu
    obtain ⟨l1, l2, s0, gs⟩ := u
    obtain ⟨hf, hp, hl, hm⟩ := hu
    show W p l e _ s m _ below meth c _ _ (qn gs - qn st) (qs gs - qs st) _ (F0 m 3 ls [va_rf (Option.map ad s0)])
    unfold fX6_takeField_3 at hf
    refine lv_dup hx hb dX6_takeField_3 (rf_cat _) ?_
    obtain ⟨a_49, ha_50, hf⟩ := ono_some hf
    refine o_at ha_50 ?_
    obtain ⟨hk_51, hf⟩ := gd_some hf
    obtain ⟨st_52, hc_53, hf⟩ := bnv_some hf
    have hmc := (mo_X0_init a_49 _ _ hc_53).mo
    have hmr := mo_X6_takeField_7 h0 _ _ _ _ _ _ hf
    refine q_cv hp hA (va_runIN (As := []) (rest := [va_rf (Option.map ad s0)]) ⟨hx, hb, hml, hown, hts⟩ (c_X0_init l dC dI ka ad ct a_49 _ _ hc_53 _) ⟨va_cnB 0 hts gq_X6_takeField_X0_init_58 rfl rfl rfl (hN.1 (.methodLinkNest RX6 58 yX0_init "RecordBench") (by decide +kernel)) (hts (.initialized RX0) (by decide +kernel)) (by decide +kernel) ⟨Nat.le_of_ble_eq_true rfl, Nat.le_of_ble_eq_true rfl⟩, rfl, (hts (.instanceMethod yX0_init) (by decide +kernel))⟩ ⟨PrC.blind _, q_pre hp hK hN hZ hC hR hL hA⟩ rfl rfl hl.1 rfl (lv_room (by simp [rf_cat, vc_i, vc_l, vc_r, vc_n])) dX6_takeField_4 ⟨by show qn gs - qn st + 0 ≤ qn st' - qn st; have := hmr.1; have := hm.1; have := hmc.1; omega, by show qs gs - qs st + 0 ≤ qs st' - qs st; have := hmr.2.1; have := hm.2.1; have := hmc.2.1; omega⟩) (fun H locs hp => ?_)
    have hk_51 : qk st_52 a_49 = 3 := by rw [(mo_X0_init a_49 _ _ hc_53).2.2.1]; exact hk_51
    refine W.widen (k := qn st_52 - qn st) (n := qs st_52 - qs st) (by have := hmc.1; omega) (by have := hmc.2.1; omega) ?_
    have hm := hm.tr hmc
    exact J7 (l1, l2, s0, st_52) _ _ _ ⟨hf, hp, (lv_sub hl [0, 1, 2] rfl), hm⟩
  unfold fX6_takeField at hf
  obtain ⟨st_55, est_55, hf⟩ := nam_some hf
  have hmr := mo_X6_takeField_3 h0 _ _ _ _ _ _ hf
  refine q_new (ci := 2) (C := RX0) (T := TX0) (N := 7) hx hb hts iRX0 tyX0 tyX0_ok hown (hts (.classLink RX6 56 RX0) (by decide +kernel)) (hts (.instantiable RX0 7) (by decide +kernel)) (hts (.initialized RX0) (by decide +kernel)) hK hp hA (by decide) rfl rfl dvX0 (by show qn st - qn st + 1 ≤ qn st' - qn st; have := hmr.1; have := hm.1; have := (wN_n est_55).1; omega) (by show qs st - qs st + 7 ≤ qs st' - qs st; have := hmr.2.1; have := hm.2.1; have := (wN_n est_55).2; omega) dX6_takeField_0 (fun H hp => ?_)
  rw [← est_55] at hp
  refine W.widen (k := qn st_55 - qn st) (n := qs st_55 - qs st) (by have := hm.1; have := (wN_n est_55).1; omega) (by have := hm.2.1; have := (wN_n est_55).2; omega) ?_
  have hm := hm.wN est_55
  exact J3 (p0, p1, (some (qn st)), st_55) _ _ _ ⟨hf, hp, (lv_sub hl [0, 1, 2] rfl), hm⟩
noncomputable def fX6_tell_83 (h0 : Nat) (k25 : Int32 → Option Nat → Int32 → CS → Option (Option Nat × CS)) (l1 : Int32) (l2 : Option Nat) (l3 : Int32) (s0 : Int32) (gs : CS) : Option (Option Nat × CS) := nam (l3 + 1) (fun v_1 => k25 l1 l2 v_1 gs)
set_option maxHeartbeats 1000000 in
theorem mo_X6_tell_83 (h0 : Nat) (k25 : Int32 → Option Nat → Int32 → CS → Option (Option Nat × CS)) (hk25 : ∀ (l1 : Int32) (l2 : Option Nat) (l3 : Int32) (gs : CS) (r : Option Nat) (st' : CS), k25 l1 l2 l3 gs = some (r, st') → Mo gs st') (l1 : Int32) (l2 : Option Nat) (l3 : Int32) (s0 : Int32) (gs : CS) (r : Option Nat) (st' : CS) (hf : fX6_tell_83 h0 k25 l1 l2 l3 s0 gs = some (r, st')) : Mo gs st' := by
  unfold fX6_tell_83 at hf
  have hm : Mo gs gs := Mo.rf
  obtain ⟨v_1, ev_1, hf⟩ := nam_some hf
  exact hm.tr (hk25 l1 l2 v_1 gs _ _ hf)
noncomputable def fX6_tell_73 (h0 : Nat) (k25 : Int32 → Option Nat → Int32 → CS → Option (Option Nat × CS)) (l1 : Int32) (l2 : Option Nat) (l3 : Int32) (s0 : Int32) (gs : CS) : Option (Option Nat × CS) := nam (l3 + 1) (fun v_2 => k25 l1 l2 v_2 gs)
set_option maxHeartbeats 1000000 in
theorem mo_X6_tell_73 (h0 : Nat) (k25 : Int32 → Option Nat → Int32 → CS → Option (Option Nat × CS)) (hk25 : ∀ (l1 : Int32) (l2 : Option Nat) (l3 : Int32) (gs : CS) (r : Option Nat) (st' : CS), k25 l1 l2 l3 gs = some (r, st') → Mo gs st') (l1 : Int32) (l2 : Option Nat) (l3 : Int32) (s0 : Int32) (gs : CS) (r : Option Nat) (st' : CS) (hf : fX6_tell_73 h0 k25 l1 l2 l3 s0 gs = some (r, st')) : Mo gs st' := by
  unfold fX6_tell_73 at hf
  have hm : Mo gs gs := Mo.rf
  obtain ⟨v_2, ev_2, hf⟩ := nam_some hf
  exact hm.tr (hk25 l1 l2 v_2 gs _ _ hf)
noncomputable def fX6_tell_53 (h0 : Nat) (k25 : Int32 → Option Nat → Int32 → CS → Option (Option Nat × CS)) (l1 : Int32) (l2 : Option Nat) (l3 : Int32) (s0 : Int32) (s1 : Int32) (gs : CS) : Option (Option Nat × CS) := pif (s1 < s0) (pif (l3 = 10) (gd (qk gs h0 = 9) (bnd (fX6_refuse h0 1 (qI gs h0 3) gs) (fun r_12 st_10 => fX6_tell_73 h0 k25 l1 l2 l3 r_12 st_10))) (gd (qk gs h0 = 9) (bnd (fX6_takeField h0 l1 l2 gs) (fun r_8 st_6 => fX6_tell_83 h0 k25 l1 l2 l3 r_8 st_6)))) (some (l2, gs))
set_option maxHeartbeats 1000000 in
theorem mo_X6_tell_53 (h0 : Nat) (k25 : Int32 → Option Nat → Int32 → CS → Option (Option Nat × CS)) (hk25 : ∀ (l1 : Int32) (l2 : Option Nat) (l3 : Int32) (gs : CS) (r : Option Nat) (st' : CS), k25 l1 l2 l3 gs = some (r, st') → Mo gs st') (l1 : Int32) (l2 : Option Nat) (l3 : Int32) (s0 : Int32) (s1 : Int32) (gs : CS) (r : Option Nat) (st' : CS) (hf : fX6_tell_53 h0 k25 l1 l2 l3 s0 s1 gs = some (r, st')) : Mo gs st' := by
  unfold fX6_tell_53 at hf
  have hm : Mo gs gs := Mo.rf
  rcases pif_or hf with ⟨c_3, hf⟩ | ⟨c_3, hf⟩
  · rcases pif_or hf with ⟨c_4, hf⟩ | ⟨c_4, hf⟩
    · obtain ⟨hk_9, hf⟩ := gd_some hf
      obtain ⟨r_12, st_10, hc_11, hf⟩ := bnd_some hf
      have hm := hm.ke (mo_X6_refuse h0 1 (qI gs h0 3) _ _ _ hc_11)
      exact hm.tr (mo_X6_tell_73 h0 k25 hk25 l1 l2 l3 r_12 st_10 _ _ hf)
    · obtain ⟨hk_5, hf⟩ := gd_some hf
      obtain ⟨r_8, st_6, hc_7, hf⟩ := bnd_some hf
      have hm := hm.tr (mo_X6_takeField h0 l1 l2 _ _ _ hc_7)
      exact hm.tr (mo_X6_tell_83 h0 k25 hk25 l1 l2 l3 r_8 st_6 _ _ hf)
  · obtain ⟨e1, e2⟩ := pr_some hf
    exact e2 ▸ hm
noncomputable def fX6_tell_42 (h0 : Nat) (k25 : Int32 → Option Nat → Int32 → CS → Option (Option Nat × CS)) (l1 : Int32) (l2 : Option Nat) (l3 : Int32) (gs : CS) : Option (Option Nat × CS) := gd (qk gs h0 = 9) (ono (qP gs h0 0) (fun a_14 => gd (qk gs a_14 = 8) (bnd (fX5_size a_14 gs) (fun r_19 st_17 => fX6_tell_53 h0 k25 l1 l2 l3 r_19 (qI gs h0 3) st_17))))
set_option maxHeartbeats 1000000 in
theorem mo_X6_tell_42 (h0 : Nat) (k25 : Int32 → Option Nat → Int32 → CS → Option (Option Nat × CS)) (hk25 : ∀ (l1 : Int32) (l2 : Option Nat) (l3 : Int32) (gs : CS) (r : Option Nat) (st' : CS), k25 l1 l2 l3 gs = some (r, st') → Mo gs st') (l1 : Int32) (l2 : Option Nat) (l3 : Int32) (gs : CS) (r : Option Nat) (st' : CS) (hf : fX6_tell_42 h0 k25 l1 l2 l3 gs = some (r, st')) : Mo gs st' := by
  unfold fX6_tell_42 at hf
  have hm : Mo gs gs := Mo.rf
  obtain ⟨hk_13, hf⟩ := gd_some hf
  obtain ⟨a_14, ha_15, hf⟩ := ono_some hf
  obtain ⟨hk_16, hf⟩ := gd_some hf
  obtain ⟨r_19, st_17, hc_18, hf⟩ := bnd_some hf
  have hm := hm.ke (mo_X5_size a_14 _ _ _ hc_18)
  exact hm.tr (mo_X6_tell_53 h0 k25 hk25 l1 l2 l3 r_19 (qI gs h0 3) st_17 _ _ hf)
noncomputable def fX6_tell_25 (h0 : Nat)  : Nat → Int32 → Option Nat → Int32 → CS → Option (Option Nat × CS)
  | 0 => fun _ _ _ _ => none
  | n + 1 => fun l1 l2 l3 gs => pif (10 < l3) (some (none, gs)) (gd (qk gs h0 = 9) (pif ((qI gs h0 4) = 0) (bnv (fX6_skipBlanks h0 gs) (fun st_23 => fX6_tell_42 h0 (fX6_tell_25 h0 n) l1 l2 l3 st_23)) (some (none, gs))))
theorem fX6_tell_25_z (h0 : Nat)  (l1 : Int32) (l2 : Option Nat) (l3 : Int32) (gs : CS) : fX6_tell_25 h0 0 l1 l2 l3 gs = none := rfl
theorem fX6_tell_25_s (h0 : Nat)  (n : Nat) (l1 : Int32) (l2 : Option Nat) (l3 : Int32) (gs : CS) : fX6_tell_25 h0 (n + 1) l1 l2 l3 gs = pif (10 < l3) (some (none, gs)) (gd (qk gs h0 = 9) (pif ((qI gs h0 4) = 0) (bnv (fX6_skipBlanks h0 gs) (fun st_23 => fX6_tell_42 h0 (fX6_tell_25 h0 n) l1 l2 l3 st_23)) (some (none, gs)))) := rfl
set_option maxHeartbeats 1000000 in
theorem mo_X6_tell_25 (h0 : Nat)   : ∀ (n : Nat) (l1 : Int32) (l2 : Option Nat) (l3 : Int32) (gs : CS) (r : Option Nat) (st' : CS), fX6_tell_25 h0 n l1 l2 l3 gs = some (r, st') → Mo gs st' := by
  intro n
  induction n with
  | zero =>
    intro l1 l2 l3 gs r st' hf
    rw [fX6_tell_25_z] at hf
    cases hf
  | succ n ih =>
    intro l1 l2 l3 gs r st' hf
    rw [fX6_tell_25_s] at hf
    have hm : Mo gs gs := Mo.rf
    rcases pif_or hf with ⟨c_20, hf⟩ | ⟨c_20, hf⟩
    · obtain ⟨e1, e2⟩ := pr_some hf
      exact e2 ▸ hm
    · obtain ⟨hk_21, hf⟩ := gd_some hf
      rcases pif_or hf with ⟨c_22, hf⟩ | ⟨c_22, hf⟩
      · obtain ⟨st_23, hc_24, hf⟩ := bnv_some hf
        have hm := hm.ke (mo_X6_skipBlanks h0 _ _ hc_24)
        exact hm.tr (mo_X6_tell_42 h0 (fX6_tell_25 h0 n) ih l1 l2 l3 st_23 _ _ hf)
      · obtain ⟨e1, e2⟩ := pr_some hf
        exact e2 ▸ hm
noncomputable def fX6_tell_22 (h0 : Nat)  (l1 : Int32) (s0 : Option Nat) (gs : CS) : Option (Option Nat × CS) := fX6_tell_25 h0 fuel l1 s0 0 gs
set_option maxHeartbeats 1000000 in
theorem mo_X6_tell_22 (h0 : Nat)   (l1 : Int32) (s0 : Option Nat) (gs : CS) (r : Option Nat) (st' : CS) (hf : fX6_tell_22 h0 l1 s0 gs = some (r, st')) : Mo gs st' := by
  unfold fX6_tell_22 at hf
  have hm : Mo gs gs := Mo.rf
  exact hm.tr (mo_X6_tell_25 h0 fuel l1 s0 0 gs _ _ hf)
noncomputable def fX6_tell_18 (h0 : Nat)  (l1 : Int32) (s0 : Option Nat) (gs : CS) : Option (Option Nat × CS) := ono s0 (fun a_26 => gd (qk gs a_26 = 4) (bnv (fX1_init a_26 gs) (fun st_29 => fX6_tell_22 h0 l1 s0 st_29)))
set_option maxHeartbeats 1000000 in
theorem mo_X6_tell_18 (h0 : Nat)   (l1 : Int32) (s0 : Option Nat) (gs : CS) (r : Option Nat) (st' : CS) (hf : fX6_tell_18 h0 l1 s0 gs = some (r, st')) : Mo gs st' := by
  unfold fX6_tell_18 at hf
  have hm : Mo gs gs := Mo.rf
  obtain ⟨a_26, ha_27, hf⟩ := ono_some hf
  obtain ⟨hk_28, hf⟩ := gd_some hf
  obtain ⟨st_29, hc_30, hf⟩ := bnv_some hf
  have hm := hm.tr (mo_X1_init a_26 _ _ hc_30)
  exact hm.tr (mo_X6_tell_22 h0 l1 s0 st_29 _ _ hf)
noncomputable def fX6_tell (h0 : Nat) (p0 : Int32) (st : CS) : Option (Option Nat × CS) := gd (qk st h0 = 9) (nam (wI st h0 3 0) (fun st_33 => nam (wI st_33 h0 4 0) (fun st_34 => nam (wI st_34 h0 5 (-1)) (fun st_35 => nam (wN st_35 4 0 2) (fun st_36 => fX6_tell_18 h0 p0 (some (qn st_35)) st_36)))))
set_option maxHeartbeats 1000000 in
theorem mo_X6_tell (h0 : Nat) (p0 : Int32) (st : CS) (r : Option Nat) (st' : CS) (hf : fX6_tell h0 p0 st = some (r, st')) : Mo st st' := by
  unfold fX6_tell at hf
  have hm : Mo st st := Mo.rf
  obtain ⟨hk_32, hf⟩ := gd_some hf
  obtain ⟨st_33, est_33, hf⟩ := nam_some hf
  have hm := hm.wI est_33
  obtain ⟨st_34, est_34, hf⟩ := nam_some hf
  have hm := hm.wI est_34
  obtain ⟨st_35, est_35, hf⟩ := nam_some hf
  have hm := hm.wI est_35
  obtain ⟨st_36, est_36, hf⟩ := nam_some hf
  have hm := hm.wN est_36
  exact hm.tr (mo_X6_tell_18 h0 p0 (some (qn st_35)) st_36 _ _ hf)
def wq_X6_tell : List Cond := .code yX6_tell cX6_tell 4 (some (.object "RecordBench$Make")) :: (([.fieldLink RX6 26 "RecordBench$TextReader" "pos" "I", .fieldLink RX6 30 "RecordBench$TextReader" "fault" "I", .fieldLink RX6 33 "RecordBench$TextReader" "place" "I", .fieldLink RX6 9 "RecordBench$TextReader" "tape" "LRecordBench$Row;", .methodLink RX6 52 yX6_takeField, .instanceMethod yX6_takeField, .selects RX6 yX6_takeField yX6_takeField, .initialized RX6, .methodLink RX6 48 yX6_refuse, .instanceMethod yX6_refuse, .selects RX6 yX6_refuse yX6_refuse, .methodLink RX6 42 yX5_size, .instanceMethod yX5_size, .selects RX5 yX5_size yX5_size, .initialized RX5, .methodLink RX6 39 yX6_skipBlanks, .instanceMethod yX6_skipBlanks, .selects RX6 yX6_skipBlanks yX6_skipBlanks, .instanceMethod yX1_init, .initialized RX1, .classLink RX6 36 RX1, .instantiable RX1 2, .code yX6_takeField cX6_takeField 6 (some .boolean), .methodLink RX6 90 yX1_add, .instanceMethod yX1_add, .selects RX1 yX1_add yX1_add, .methodLink RX6 87 yX6_takeClose, .instanceMethod yX6_takeClose, .selects RX6 yX6_takeClose yX6_takeClose, .methodLink RX6 84 yX6_takeDefault, .instanceMethod yX6_takeDefault, .selects RX6 yX6_takeDefault yX6_takeDefault, .methodLink RX6 80 yX6_takeGroup, .instanceMethod yX6_takeGroup, .selects RX6 yX6_takeGroup yX6_takeGroup, .methodLink RX6 76 yX6_takeKind, .instanceMethod yX6_takeKind, .selects RX6 yX6_takeKind yX6_takeKind, .methodLink RX6 70 yJ0_isEmpty_aae02, .instanceMethod yJ0_isEmpty_aae02, .selects RJ0 yJ0_isEmpty_aae02 yJ0_isEmpty_aae02, .initialized RJ0, .methodLink RX6 63 yX6_takeName, .instanceMethod yX6_takeName, .selects RX6 yX6_takeName yX6_takeName, .methodLink RX6 59 yX6_takeNumber, .instanceMethod yX6_takeNumber, .selects RX6 yX6_takeNumber yX6_takeNumber, .instanceMethod yX0_init, .initialized RX0, .classLink RX6 56 RX0, .instantiable RX0 7, .code yX1_add cX1_add 2 (some .boolean), .fieldLink RX1 11 "RecordBench$Make" "fields" "[LRecordBench$Field;", .fieldLink RX1 17 "RecordBench$Make" "count" "I", .code yX6_takeClose cX6_takeClose 1 (some .boolean), .methodLink RX6 150 yX5_byteAt, .instanceMethod yX5_byteAt, .selects RX5 yX5_byteAt yX5_byteAt, .code yX6_skipBlanks cX6_skipBlanks 3 none, .methodLink RX6 189 yX6_isBlank, .static yX6_isBlank, .code yX5_size cX5_size 1 (some .int), .fieldLink RX5 21 "RecordBench$Row" "size" "I", .code yX5_byteAt cX5_byteAt 2 (some .int), .fieldLink RX5 15 "RecordBench$Row" "bytes" "[I", .code yX6_isBlank cX6_isBlank 1 (some .boolean), .code yX6_refuse cX6_refuse 3 (some .boolean), .code yX6_takeDefault cX6_takeDefault 2 (some .boolean), .methodLink RX6 156 yX6_takeValue, .instanceMethod yX6_takeValue, .selects RX6 yX6_takeValue yX6_takeValue, .methodLink RX6 153 yX6_takeText, .instanceMethod yX6_takeText, .selects RX6 yX6_takeText yX6_takeText, .code yX6_takeValue cX6_takeValue 10 (some .boolean), .constantLong RX6 159 (10), .constantLong RX6 161 (-9223372036854775808), .methodLink RX6 163 yX0_holds, .instanceMethod yX0_holds, .selects RX0 yX0_holds yX0_holds, .methodLink RX6 93 yX6_isDigit, .instanceMethod yX6_isDigit, .selects RX6 yX6_isDigit yX6_isDigit, .methodLink RX6 97 yX6_digitAt, .instanceMethod yX6_digitAt, .selects RX6 yX6_digitAt yX6_digitAt, .code yX0_holds cX0_holds 3 (some .boolean), .fieldLink RX0 15 "RecordBench$Field" "kind" "I", .constantLong RX0 37 (-128), .constantLong RX0 39 (127), .constantLong RX0 41 (-2147483648), .constantLong RX0 43 (2147483647), .code yX6_isDigit cX6_isDigit 3 (some .boolean), .code yX6_digitAt cX6_digitAt 3 (some .int), .code yX6_takeText cX6_takeText 3 (some .boolean), .fieldLink RX6 22 "RecordBench$TextReader" "letters" "Ljava/lang/StringBuilder;", .methodLink RX6 182 yJ4_toString_0e30d, .instanceMethod yJ4_toString_0e30d, .selects RJ4 yJ4_toString_0e30d yJ4_toString_0e30d, .initialized RJ4, .methodLink RX6 178 yJ4_append_cf468, .instanceMethod yJ4_append_cf468, .selects RJ4 yJ4_append_cf468 yJ4_append_cf468, .methodLink RX6 175 yX6_isQuotable, .static yX6_isQuotable, .methodLink RX6 171 yJ4_setLength_d00df, .instanceMethod yJ4_setLength_d00df, .selects RJ4 yJ4_setLength_d00df yJ4_setLength_d00df, .code yJ4_toString_0e30d cJ4_toString_0e30d 1 (some (.object "java/lang/String")), .instanceMethod yJ0_init_81219, .methodLink RJ4 137 yJ0_init_81219, .classLink RJ4 18 RJ0, .instantiable RJ0 4, .code yJ0_init_81219 cJ0_init_81219 2 none, .instanceMethod yJ0_init_db425, .methodLink RJ0 489 yJ0_init_db425, .code yJ0_init_db425 cJ0_init_db425 5 none, .methodLink RJ0 1 objectInit, .instanceMethod objectInit, .code objectInit ⟨#[0xb1]⟩ 1 none, .fieldLink RJ0 15 "java/lang/String" "coder" "B", .fieldLink RJ0 9 "java/lang/String" "value" "[B", .methodLink RJ0 54 yJ7_copyOfRange_39247, .static yJ7_copyOfRange_39247, .initialized RJ7, .methodLink RJ0 1047 ⟨"java/lang/AbstractStringBuilder", "isLatin1", "()Z"⟩, .sameMethod "java/lang/AbstractStringBuilder" "java/lang/AbstractStringBuilder" "isLatin1" "()Z", .selects RJ4 ⟨"java/lang/AbstractStringBuilder", "isLatin1", "()Z"⟩ yJ5_isLatin1_aae02, .instanceMethod yJ5_isLatin1_aae02, .initialized RJ5, .methodLink RJ0 549 ⟨"java/lang/AbstractStringBuilder", "length", "()I"⟩, .sameMethod "java/lang/AbstractStringBuilder" "java/lang/AbstractStringBuilder" "length" "()I", .instanceMethod yJ5_length_8abf5, .selects RJ4 ⟨"java/lang/AbstractStringBuilder", "length", "()I"⟩ yJ4_length_8abf5, .instanceMethod yJ4_length_8abf5, .methodLink RJ0 552 ⟨"java/lang/AbstractStringBuilder", "getValue", "()[B"⟩, .sameMethod "java/lang/AbstractStringBuilder" "java/lang/AbstractStringBuilder" "getValue" "()[B", .selects RJ4 ⟨"java/lang/AbstractStringBuilder", "getValue", "()[B"⟩ yJ5_getValue_6d5f1, .instanceMethod yJ5_getValue_6d5f1, .code yJ7_copyOfRange_39247 cJ7_copyOfRange_39247 3 (some (.array .byte)), .classLink RJ7 311 "[B", .methodLink RJ7 339 yJ7_copyOfRangeByte_39247, .static yJ7_copyOfRangeByte_39247, .methodLink RJ7 310 ⟨"[B", "clone", "()Ljava/lang/Object;"⟩, .sameMethod "[B" "java/lang/Object" "clone" "()Ljava/lang/Object;", .native ⟨"java/lang/Object", "clone", "()Ljava/lang/Object;"⟩, .instanceMethod ⟨"java/lang/Object", "clone", "()Ljava/lang/Object;"⟩, .selects "[B" ⟨"[B", "clone", "()Ljava/lang/Object;"⟩ ⟨"java/lang/Object", "clone", "()Ljava/lang/Object;"⟩, .code yJ7_copyOfRangeByte_39247 cJ7_copyOfRangeByte_39247 5 (some (.array .byte)), .methodLink RJ7 304 Lib.Math.min.name, .static Lib.Math.min.name, .initialized "java/lang/Math", .code Lib.Math.min.name Lib.Math.min.code 2 (some .int), .methodLink RJ7 150 arraycopyName, .native arraycopyName, .static arraycopyName, .initialized "java/lang/System", .arrayClass .byte, .methodLink RJ7 343 yJ7_checkLength_df160, .static yJ7_checkLength_df160, .code yJ7_checkLength_df160 cJ7_checkLength_df160 2 none, .code yJ5_isLatin1_aae02 cJ5_isLatin1_aae02 1 (some .boolean), .fieldLink RJ5 18 "java/lang/String" "COMPACT_STRINGS" "Z", .fieldLink RJ5 22 "java/lang/AbstractStringBuilder" "coder" "B", .code yJ4_length_8abf5 cJ4_length_8abf5 1 (some .int), .methodLink RJ4 343 yJ5_length_8abf5, .superclass RJ4 RJ5, .code yJ5_length_8abf5 cJ5_length_8abf5 1 (some .int), .fieldLink RJ5 79 "java/lang/AbstractStringBuilder" "count" "I", .code yJ5_getValue_6d5f1 cJ5_getValue_6d5f1 1 (some (.array .byte)), .fieldLink RJ5 15 "java/lang/AbstractStringBuilder" "value" "[B", .code yJ4_append_cf468 cJ4_append_cf468 2 (some (.object "java/lang/StringBuilder")), .methodLink RJ4 50 yJ5_append_3fe6f, .sameMethod "java/lang/AbstractStringBuilder" "java/lang/AbstractStringBuilder" "append" "(C)Ljava/lang/AbstractStringBuilder;", .instanceMethod yJ5_append_3fe6f, .code yJ5_append_3fe6f cJ5_append_3fe6f 2 (some (.object "java/lang/AbstractStringBuilder")), .methodLink RJ5 191 yJ1_canEncode_fc78d, .static yJ1_canEncode_fc78d, .initialized RJ1, .methodLink RJ5 83 ⟨"java/lang/AbstractStringBuilder", "isLatin1", "()Z"⟩, .methodLink RJ5 100 ⟨"java/lang/AbstractStringBuilder", "ensureCapacityInternal", "(I)V"⟩, .sameMethod "java/lang/AbstractStringBuilder" "java/lang/AbstractStringBuilder" "ensureCapacityInternal" "(I)V", .selects RJ4 ⟨"java/lang/AbstractStringBuilder", "ensureCapacityInternal", "(I)V"⟩ yJ5_ensureCapacityInternal_d00df, .instanceMethod yJ5_ensureCapacityInternal_d00df, .code yJ1_canEncode_fc78d cJ1_canEncode_fc78d 1 (some .boolean), .code yJ5_ensureCapacityInternal_d00df cJ5_ensureCapacityInternal_d00df 3 none, .methodLink RJ5 108 yJ7_copyOf_9075b, .static yJ7_copyOf_9075b, .methodLink RJ5 104 ⟨"java/lang/AbstractStringBuilder", "newCapacity", "(I)I"⟩, .sameMethod "java/lang/AbstractStringBuilder" "java/lang/AbstractStringBuilder" "newCapacity" "(I)I", .selects RJ4 ⟨"java/lang/AbstractStringBuilder", "newCapacity", "(I)I"⟩ yJ5_newCapacity_0f7a4, .instanceMethod yJ5_newCapacity_0f7a4, .code yJ7_copyOf_9075b cJ7_copyOf_9075b 3 (some (.array .byte)), .code yJ5_newCapacity_0f7a4 cJ5_newCapacity_0f7a4 6 (some .int), .constant RJ5 39 (2147483647), .methodLink RJ5 114 yJ8_newLength_cabcc, .static yJ8_newLength_cabcc, .initialized RJ8, .code yJ8_newLength_cabcc cJ8_newLength_cabcc 4 (some .int), .methodLink RJ8 194 Lib.Math.max.name, .static Lib.Math.max.name, .code Lib.Math.max.name Lib.Math.max.code 2 (some .int), .constant RJ8 200 (2147483639), .code yX6_isQuotable cX6_isQuotable 1 (some .boolean), .methodLink RX6 192 yX5_isTextByte, .static yX5_isTextByte, .code yX5_isTextByte cX5_isTextByte 1 (some .boolean), .code yJ4_setLength_d00df cJ4_setLength_d00df 2 none, .methodLink RJ4 333 yJ5_setLength_d00df, .sameMethod "java/lang/AbstractStringBuilder" "java/lang/AbstractStringBuilder" "setLength" "(I)V", .instanceMethod yJ5_setLength_d00df, .code yJ5_setLength_d00df cJ5_setLength_d00df 2 none, .fieldLink RJ5 73 "java/lang/AbstractStringBuilder" "maybeLatin1" "Z", .code yX6_takeGroup cX6_takeGroup 4 (some .boolean), .methodLink RX6 120 yJ0_equals_9ea2d, .instanceMethod yJ0_equals_9ea2d, .selects RJ0 yJ0_equals_9ea2d yJ0_equals_9ea2d, .methodLink RX6 111 yX6_takeWord, .instanceMethod yX6_takeWord, .selects RX6 yX6_takeWord yX6_takeWord, .methodLink RX6 108 yX6_isLetter, .instanceMethod yX6_isLetter, .selects RX6 yX6_isLetter yX6_isLetter, .code yJ0_equals_9ea2d cJ0_equals_9ea2d 3 (some .boolean), .classLink RJ0 10 "java/lang/String", .fieldLink RJ0 38 "java/lang/String" "COMPACT_STRINGS" "Z", .methodLink RJ0 541 yJ1_equals_b5fdf, .static yJ1_equals_b5fdf, .code yJ1_equals_b5fdf cJ1_equals_b5fdf 3 (some .boolean), .code yX6_takeWord cX6_takeWord 2 (some (.object "java/lang/String")), .methodLink RX6 188 yJ4_length_8abf5, .selects RJ4 yJ4_length_8abf5 yJ4_length_8abf5, .code yX6_isLetter cX6_isLetter 3 (some .boolean), .code yX6_takeKind cX6_takeKind 4 (some .boolean), .methodLink RX6 135 yX6_takeRec, .instanceMethod yX6_takeRec, .selects RX6 yX6_takeRec yX6_takeRec, .methodLink RX6 124 yX6_kindOf, .static yX6_kindOf, .code yX6_takeRec cX6_takeRec 4 (some .boolean), .fieldLink RX6 15 "RecordBench$TextReader" "makes" "[LRecordBench$Make;", .static yX8_makeOf, .initialized RX8, .code yX8_makeOf cX8_makeOf 2 (some (.object "RecordBench$Make")), .code yX6_kindOf cX6_kindOf 1 (some .int), .code yJ0_isEmpty_aae02 cJ0_isEmpty_aae02 1 (some .boolean), .code yX6_takeName cX6_takeName 5 (some .boolean), .methodLink RX6 128 yX1_hasName, .instanceMethod yX1_hasName, .selects RX1 yX1_hasName yX1_hasName, .methodLink RX6 115 yJ0_length_8abf5, .instanceMethod yJ0_length_8abf5, .selects RJ0 yJ0_length_8abf5 yJ0_length_8abf5, .code yX1_hasName cX1_hasName 4 (some .boolean), .methodLink RX1 32 yJ0_equals_9ea2d, .code yJ0_length_8abf5 cJ0_length_8abf5 1 (some .int), .methodLink RJ0 335 yJ0_coder_7d493, .instanceMethod yJ0_coder_7d493, .selects RJ0 yJ0_coder_7d493 yJ0_coder_7d493, .code yJ0_coder_7d493 cJ0_coder_7d493 1 (some .byte), .code yX6_takeNumber cX6_takeNumber 6 (some .boolean), .methodLink RX6 101 yX1_fieldAt, .instanceMethod yX1_fieldAt, .selects RX1 yX1_fieldAt yX1_fieldAt, .code yX1_fieldAt cX1_fieldAt 2 (some (.object "RecordBench$Field")), .code yX0_init cX0_init 1 none, .methodLink RX0 3 objectInit, .fieldLink RX0 9 "RecordBench$Field" "number" "I", .fieldLink RX0 18 "RecordBench$Field" "group" "I", .fieldLink RX0 21 "RecordBench$Field" "rec" "I", .fieldLink RX0 26 "RecordBench$Field" "name" "Ljava/lang/String;", .fieldLink RX0 30 "RecordBench$Field" "text" "Ljava/lang/String;", .fieldLink RX0 33 "RecordBench$Field" "value" "J", .code yX1_init cX1_init 1 none, .methodLink RX1 3 objectInit, .classLink RX1 9 RX0] : List Cond) ++ wsX60 ++ wsX10 ++ wsX00 ++ wsX50 ++ wsJ00 ++ wsJ40)
theorem gs_wq_X6_tell_wsX00 : GoodIn wq_X6_tell wsX00 := fun w h => ⟨List.mem_cons_of_mem _ (List.mem_append_left _ (List.mem_append_left _ (List.mem_append_left _ (List.mem_append_right _ h)))), (gt_wsX00 w h).2⟩
theorem gs_wq_X6_tell_wsX10 : GoodIn wq_X6_tell wsX10 := fun w h => ⟨List.mem_cons_of_mem _ (List.mem_append_left _ (List.mem_append_left _ (List.mem_append_left _ (List.mem_append_left _ (List.mem_append_right _ h))))), (gt_wsX10 w h).2⟩
theorem gs_wq_X6_tell_wsX60 : GoodIn wq_X6_tell wsX60 := fun w h => ⟨List.mem_cons_of_mem _ (List.mem_append_left _ (List.mem_append_left _ (List.mem_append_left _ (List.mem_append_left _ (List.mem_append_left _ (List.mem_append_right _ h)))))), (gt_wsX60 w h).2⟩
theorem gs_wq_X6_tell_wsX50 : GoodIn wq_X6_tell wsX50 := fun w h => ⟨List.mem_cons_of_mem _ (List.mem_append_left _ (List.mem_append_left _ (List.mem_append_right _ h))), (gt_wsX50 w h).2⟩
theorem gs_wq_X6_tell_wsJ00 : GoodIn wq_X6_tell wsJ00 := fun w h => ⟨List.mem_cons_of_mem _ (List.mem_append_left _ (List.mem_append_right _ h)), (gt_wsJ00 w h).2⟩
theorem gs_wq_X6_tell_wsJ40 : GoodIn wq_X6_tell wsJ40 := fun w h => ⟨List.mem_cons_of_mem _ (List.mem_append_right _ h), (gt_wsJ40 w h).2⟩
set_option maxRecDepth 20000 in
theorem gq_X6_tell_X6_takeField_52 : GoodIn wq_X6_tell (wsV RX6 52 RX6 yX6_takeField wq_X6_takeField) := goodIn_app (goodIn_r _ [5, 6, 7, 8] rfl rfl) (goodIn_ca (goodIn_ca (goodIn_ca (goodIn_ca (goodIn_ca (goodIn_ca (goodIn_r _ [23, 24, 25, 26, 20, 27, 28, 29, 8, 30, 31, 32, 33, 34, 35, 36, 37, 38, 39, 40, 41, 42, 43, 44, 45, 46, 47, 48, 49, 50, 51, 52, 53, 54, 55, 56, 4, 1, 16, 17, 18, 57, 58, 59, 15, 9, 10, 11, 60, 12, 13, 14, 61, 62, 63, 64, 65, 66, 67, 68, 2, 3, 69, 70, 71, 72, 73, 74, 75, 76, 77, 78, 79, 80, 81, 82, 83, 84, 85, 86, 87, 88, 89, 90, 91, 92, 93, 94, 95, 96, 97, 98, 99, 100, 101, 102, 103, 104, 105, 106, 107, 108, 109, 110, 111, 112, 113, 114, 115, 116, 117, 118, 119, 120, 121, 122, 123, 124, 125, 126, 127, 128, 129, 130, 131, 132, 133, 134, 135, 136, 137, 138, 139, 140, 141, 142, 143, 144, 145, 146, 147, 148, 149, 150, 151, 152, 153, 154, 155, 156, 157, 158, 159, 160, 161, 162, 163, 164, 165, 166, 167, 168, 169, 170, 171, 172, 173, 174, 175, 176, 177, 178, 179, 180, 181, 182, 183, 184, 185, 186, 187, 188, 189, 190, 191, 192, 193, 194, 195, 196, 197, 198, 199, 200, 201, 202, 203, 204, 205, 206, 207, 208, 209, 210, 211, 212, 213, 214, 215, 216, 217, 218, 219, 220, 221, 222, 223, 224, 225, 226, 227, 228, 229, 230, 231, 232, 233, 234, 235, 236, 237, 238, 239, 240, 241, 242, 243, 244, 245, 246, 247, 248, 249, 250, 251, 252, 253, 254, 255, 256, 257, 258, 259, 260, 261, 262, 263, 264, 265, 266, 267, 268, 269, 270, 271, 272, 273, 274] rfl rfl) gs_wq_X6_tell_wsX00) gs_wq_X6_tell_wsX10) gs_wq_X6_tell_wsX60) gs_wq_X6_tell_wsX50) gs_wq_X6_tell_wsJ00) gs_wq_X6_tell_wsJ40)
set_option maxRecDepth 20000 in
theorem gq_X6_tell_X6_refuse_48 : GoodIn wq_X6_tell (wsV RX6 48 RX6 yX6_refuse wq_X6_refuse) := goodIn_app (goodIn_r _ [9, 10, 11, 8] rfl rfl) (goodIn_ca (goodIn_r _ [68, 2, 3] rfl rfl) gs_wq_X6_tell_wsX60)
set_option maxRecDepth 20000 in
theorem gq_X6_tell_X5_size_42 : GoodIn wq_X6_tell (wsV RX6 42 RX5 yX5_size wq_X5_size) := goodIn_app (goodIn_r _ [12, 13, 14, 15] rfl rfl) (goodIn_ca (goodIn_r _ [63, 64] rfl rfl) gs_wq_X6_tell_wsX50)
set_option maxRecDepth 20000 in
theorem gq_X6_tell_X6_skipBlanks_39 : GoodIn wq_X6_tell (wsV RX6 39 RX6 yX6_skipBlanks wq_X6_skipBlanks) := goodIn_app (goodIn_r _ [16, 17, 18, 8] rfl rfl) (goodIn_ca (goodIn_ca (goodIn_r _ [60, 1, 4, 12, 13, 14, 15, 57, 58, 59, 61, 62, 8, 63, 64, 65, 66, 67] rfl rfl) gs_wq_X6_tell_wsX60) gs_wq_X6_tell_wsX50)
set_option maxRecDepth 20000 in
theorem gq_X6_tell_X1_init_38 : GoodIn wq_X6_tell (wq_X1_init) := (goodIn_ca (goodIn_r _ [275, 276, 120, 121, 54, 55, 277] rfl rfl) gs_wq_X6_tell_wsX10)
set_option maxHeartbeats 4000000 in
set_option maxRecDepth 100000 in
theorem c_X6_tell (l : Launch) (dC : Nat → ClassId) (dI : Nat → Nat → Nat) (ka ad : Nat → Nat) (ct : Nat → ClassId) (h0 : Nat) (p0 : Int32) (st st' : CS) (r : Option Nat) (hf : fX6_tell h0 p0 st = some (r, st')) (sz : Nat) : Met l yX6_tell wq_X6_tell ({ frames := 9, cells := (qn st' - qn st), slots := (qs st' - qs st), locals := 258 }) (va_Pc [.ref (ad h0), .int p0] (PrC (dC, dI) ct ka ad st sz)) (va_Qq (fun r' (_ : Unit) => r' = Option.map ad r) (fun _ => CB (dC, dI) ct ka ad st' (aC ad st sz)) (aC ad st sz)) (qn st' - qn st) (qs st' - qs st) (aC ad st sz) := by
  refine Met.ofW (cc := cX6_tell) (maxL := 4) (ret := (some (.object "RecordBench$Make"))) (by decide) rfl ?_
  intro p e s m args below meth c s₁ B hml hv
  obtain ⟨rfl, hsz, hw0, hK, hN, hZ, hC, hR, hL, hw1, hw2⟩ := hv
  have hx := B.exec
  have hb := B.bytes
  have hr := B.returns
  have hts := atoms_spec (ws := wq_X6_tell) B.pre
  have hown : s.vm.findClass RX6 = some m.cls := findClass_of_methodNamed B.named
  have iRX6 : ∀ w ∈ u_ws RX6 TX6 6, w ∈ wq_X6_tell := fun w h => List.mem_cons_of_mem _ (List.mem_append_left _ (List.mem_append_left _ (List.mem_append_left _ (List.mem_append_left _ (List.mem_append_left _ (List.mem_append_right _ h))))))
  have iRX1 : ∀ w ∈ u_ws RX1 TX1 2, w ∈ wq_X6_tell := fun w h => List.mem_cons_of_mem _ (List.mem_append_left _ (List.mem_append_left _ (List.mem_append_left _ (List.mem_append_left _ (List.mem_append_right _ h)))))
  subst hsz
  have hp : Cp (dC, dI) ka ad ct (aC ad st s.heap.size) s.heap st s.heap [] := ⟨fun i a b => ⟨hw0 i a b, Or.inl ⟨i, a, b, rfl⟩⟩, va_S.rf, hw1, hw2⟩
  generalize hAe : aC ad st s.heap.size = A at hp hZ hC ⊢
  have hA : ∀ q : Nat, s.heap.size ≤ q → A q := fun q h => by rw [← hAe]; exact Or.inr h
  have hl := lv_entry ([.ref (ad h0), .int p0]) (n := 4) (Nat.le_of_ble_eq_true rfl)
  rw [lg_entry_eq]
  generalize (lg_sl ([.ref (ad h0), .int p0]) ++ List.replicate (4 - (lg_sl ([.ref (ad h0), .int p0])).length) Slot.unset).toArray = ls at hl ⊢
  have hl : lv_has ls 4 [(0, .ref (ad h0)), (1, .int p0)] := hl
  have hm : Mo st st := Mo.rf
  refine W.widen (k := qn st - qn st) (n := qs st - qs st) (Nat.zero_le _) (Nat.zero_le _) ?_
  refine W_lpA (fun n25 (u : Int32 × (Option Nat) × Int32 × CS) H locs ls => match u with | (l1, l2, l3, gs) => fX6_tell_25 h0 n25 l1 l2 l3 gs = some (r, st') ∧ Cp (dC, dI) ka ad ct A s.heap gs H locs ∧ lv_has ls 4 [(0, .ref (ad h0)), (1, .int l1), (2, va_rf (Option.map ad l2)), (3, .int l3)] ∧ Mo st gs) (fun (u : Int32 × (Option Nat) × Int32 × CS) ls => match u with | (l1, l2, l3, gs) => F0 m 25 ls []) (fun (u : Int32 × (Option Nat) × Int32 × CS) => match u with | (l1, l2, l3, gs) => qn gs - qn st) (fun (u : Int32 × (Option Nat) × Int32 × CS) => match u with | (l1, l2, l3, gs) => qs gs - qs st) ?_ ?_ (fun J25 => ?_)
  · intro u H locs ls hu
    obtain ⟨l1, l2, l3, gs⟩ := u
    obtain ⟨hf, hp, hl, hm⟩ := hu
    rw [fX6_tell_25_z] at hf
    cases hf
  · intro n25 ih25 u H locs ls hu
    obtain ⟨l1, l2, l3, gs⟩ := u
    obtain ⟨hf, hp, hl, hm⟩ := hu
    show W p l e _ s m _ below meth c _ _ (qn gs - qn st) (qs gs - qs st) _ (F0 m 25 ls [])
    refine W_blkA (fun (u : Int32 × (Option Nat) × Int32 × Int32 × CS) H locs ls => match u with | (l1, l2, l3, s0, gs) => fX6_tell_83 h0 (fX6_tell_25 h0 n25) l1 l2 l3 s0 gs = some (r, st') ∧ Cp (dC, dI) ka ad ct A s.heap gs H locs ∧ lv_has ls 4 [(0, .ref (ad h0)), (1, .int l1), (2, va_rf (Option.map ad l2)), (3, .int l3)] ∧ Mo st gs) (fun (u : Int32 × (Option Nat) × Int32 × Int32 × CS) ls => match u with | (l1, l2, l3, s0, gs) => F0 m 83 ls [.int s0]) (fun (u : Int32 × (Option Nat) × Int32 × Int32 × CS) => match u with | (l1, l2, l3, s0, gs) => qn gs - qn st) (fun (u : Int32 × (Option Nat) × Int32 × Int32 × CS) => match u with | (l1, l2, l3, s0, gs) => qs gs - qs st) ?_ (fun J83 => ?_)
    · intro u H locs ls hu
      obtain ⟨l1, l2, l3, s0, gs⟩ := u
      obtain ⟨hf, hp, hl, hm⟩ := hu
      show W p l e _ s m _ below meth c _ _ (qn gs - qn st) (qs gs - qs st) _ (F0 m 83 ls [.int s0])
      unfold fX6_tell_83 at hf
      refine lv_pop hx hb dX6_tell_83 rfl ?_
      obtain ⟨v_1, ev_1, hf⟩ := nam_some hf
      refine lv_iinc (v := v_1) (lv' := [(3, .int v_1), (0, .ref (ad h0)), (1, .int l1), (2, va_rf (Option.map ad l2))]) hx hb dX6_tell_84 hl (k := 3) rfl ev_1.symm (by decide) (by simp [rf_cat, vc_i, vc_l, vc_r, vc_n]) (fun ls hl => ?_)
      refine lv_goto (tgt := 25) hx hb dX6_tell_87 (by decide) ?_
      exact ih25 (l1, l2, v_1, gs) _ _ _ ⟨hf, hp, (lv_sub hl [1, 2, 3, 0] rfl), hm⟩
    refine W_blkA (fun (u : Int32 × (Option Nat) × Int32 × Int32 × CS) H locs ls => match u with | (l1, l2, l3, s0, gs) => fX6_tell_73 h0 (fX6_tell_25 h0 n25) l1 l2 l3 s0 gs = some (r, st') ∧ Cp (dC, dI) ka ad ct A s.heap gs H locs ∧ lv_has ls 4 [(0, .ref (ad h0)), (1, .int l1), (2, va_rf (Option.map ad l2)), (3, .int l3)] ∧ Mo st gs) (fun (u : Int32 × (Option Nat) × Int32 × Int32 × CS) ls => match u with | (l1, l2, l3, s0, gs) => F0 m 73 ls [.int s0]) (fun (u : Int32 × (Option Nat) × Int32 × Int32 × CS) => match u with | (l1, l2, l3, s0, gs) => qn gs - qn st) (fun (u : Int32 × (Option Nat) × Int32 × Int32 × CS) => match u with | (l1, l2, l3, s0, gs) => qs gs - qs st) ?_ (fun J73 => ?_)
    · intro u H locs ls hu
      obtain ⟨l1, l2, l3, s0, gs⟩ := u
      obtain ⟨hf, hp, hl, hm⟩ := hu
      show W p l e _ s m _ below meth c _ _ (qn gs - qn st) (qs gs - qs st) _ (F0 m 73 ls [.int s0])
      unfold fX6_tell_73 at hf
      refine lv_pop hx hb dX6_tell_73 rfl ?_
      refine lv_goto (tgt := 84) hx hb dX6_tell_74 (by decide) ?_
      obtain ⟨v_2, ev_2, hf⟩ := nam_some hf
      refine lv_iinc (v := v_2) (lv' := [(3, .int v_2), (0, .ref (ad h0)), (1, .int l1), (2, va_rf (Option.map ad l2))]) hx hb dX6_tell_84 hl (k := 3) rfl ev_2.symm (by decide) (by simp [rf_cat, vc_i, vc_l, vc_r, vc_n]) (fun ls hl => ?_)
      refine lv_goto (tgt := 25) hx hb dX6_tell_87 (by decide) ?_
      exact ih25 (l1, l2, v_2, gs) _ _ _ ⟨hf, hp, (lv_sub hl [1, 2, 3, 0] rfl), hm⟩
    refine W_blkA (fun (u : Int32 × (Option Nat) × Int32 × Int32 × Int32 × CS) H locs ls => match u with | (l1, l2, l3, s0, s1, gs) => fX6_tell_53 h0 (fX6_tell_25 h0 n25) l1 l2 l3 s0 s1 gs = some (r, st') ∧ Cp (dC, dI) ka ad ct A s.heap gs H locs ∧ lv_has ls 4 [(0, .ref (ad h0)), (1, .int l1), (2, va_rf (Option.map ad l2)), (3, .int l3)] ∧ Mo st gs) (fun (u : Int32 × (Option Nat) × Int32 × Int32 × Int32 × CS) ls => match u with | (l1, l2, l3, s0, s1, gs) => F0 m 53 ls [.int s0, .int s1]) (fun (u : Int32 × (Option Nat) × Int32 × Int32 × Int32 × CS) => match u with | (l1, l2, l3, s0, s1, gs) => qn gs - qn st) (fun (u : Int32 × (Option Nat) × Int32 × Int32 × Int32 × CS) => match u with | (l1, l2, l3, s0, s1, gs) => qs gs - qs st) ?_ (fun J53 => ?_)
    · intro u H locs ls hu
      obtain ⟨l1, l2, l3, s0, s1, gs⟩ := u
      obtain ⟨hf, hp, hl, hm⟩ := hu
      show W p l e _ s m _ below meth c _ _ (qn gs - qn st) (qs gs - qs st) _ (F0 m 53 ls [.int s0, .int s1])
      unfold fX6_tell_53 at hf
      refine lv_icmp_lt (tgt := 58) hx hb dX6_tell_53 (by decide) (fun c_3 => ?_) (fun c_3 => ?_)
      · have hf := pif_t c_3 hf
        refine lv_iload_n hx hb dX6_tell_58 rfl (lv_at hl 3 rfl) ?_
        refine lv_bipush (v := 10) hx hb dX6_tell_59 (by decide) ?_
        refine lv_icmp_ne (tgt := 77) hx hb dX6_tell_61 (by decide) (fun c_4 => ?_) (fun c_4 => ?_)
        · have hf := pif_f c_4 hf
          refine lv_aload_n hx hb dX6_tell_77 rfl (lv_at hl 0 rfl) ?_
          refine lv_iload_n hx hb dX6_tell_78 rfl (lv_at hl 1 rfl) ?_
          refine o_aload_n hx hb dX6_tell_79 rfl (lv_at hl 2 rfl) ?_
          obtain ⟨hk_5, hf⟩ := gd_some hf
          obtain ⟨r_8, st_6, hc_7, hf⟩ := bnd_some hf
          have lthk_5 := hp.2.2.1.lt (i := h0) (by rw [hk_5]; decide)
          have hmc := (mo_X6_takeField h0 l1 l2 _ _ _ hc_7)
          have hmr := mo_X6_tell_83 h0 (fX6_tell_25 h0 n25) (mo_X6_tell_25 h0 n25) _ _ _ _ _ _ _ hf
          refine q_ci hp hA (va_runV (As := [.int l1, va_rf (Option.map ad l2)]) (rest := []) ⟨hx, hb, hml, hown, hts⟩ (c_X6_takeField l dC dI ka ad ct h0 l1 l2 _ _ _ hc_7 _) (cwV 2 hts gq_X6_tell_X6_takeField_52 rfl rfl rfl (by decide +kernel) ⟨Nat.le_of_ble_eq_true rfl, Nat.le_of_ble_eq_true rfl⟩) ⟨PrC.blind _, q_rv8 hK hp hC hk_5, q_pre hp hK hN hZ hC hR hL hA⟩ rfl rfl hl.1 rfl (lv_room (Nat.le_of_ble_eq_true rfl)) dX6_tell_80 ⟨by show qn gs - qn st + (qn st_6 - qn gs) ≤ qn st' - qn st; have := hmr.1; have := hm.1; have := hmc.1; omega, by show qs gs - qs st + (qs st_6 - qs gs) ≤ qs st' - qs st; have := hmr.2.1; have := hm.2.1; have := hmc.2.1; omega⟩) (fun H locs hp => ?_)
          have hk_5 : qk st_6 h0 = 9 := ((mo_X6_takeField h0 l1 l2 _ _ _ hc_7).2.2 _ lthk_5).1.trans hk_5
          refine W.widen (k := qn st_6 - qn st) (n := qs st_6 - qs st) (by have := hm.1; have := hmc.1; omega) (by have := hm.2.1; have := hmc.2.1; omega) ?_
          have hm := hm.tr hmc
          exact J83 (l1, l2, l3, r_8, st_6) _ _ _ ⟨hf, hp, (lv_sub hl [0, 1, 2, 3] rfl), hm⟩
        · have hf := pif_t c_4 hf
          refine lv_aload_n hx hb dX6_tell_64 rfl (lv_at hl 0 rfl) ?_
          refine lv_iconst (v := 1) hx hb dX6_tell_65 (by decide) ?_
          refine lv_aload_n hx hb dX6_tell_66 rfl (lv_at hl 0 rfl) ?_
          obtain ⟨hk_9, hf⟩ := gd_some hf
          refine q_gi (ci := 8) (C := RX6) (T := TX6) (N := 6) (k := 3) hx hb hts iRX6 hown hK hp hk_9 (by decide) rfl rfl (by decide) rfl (Or.inl (hts (.fieldLink RX6 26 "RecordBench$TextReader" "pos" "I") (by decide +kernel))) (fun _ h9 => h9) dX6_tell_67 ?_
          obtain ⟨r_12, st_10, hc_11, hf⟩ := bnd_some hf
          have hmc := (mo_X6_refuse h0 1 (qI gs h0 3) _ _ _ hc_11).mo
          have hmr := mo_X6_tell_73 h0 (fX6_tell_25 h0 n25) (mo_X6_tell_25 h0 n25) _ _ _ _ _ _ _ hf
          refine q_ci hp hA (va_runV (As := [.int 1, .int (qI gs h0 3)]) (rest := []) ⟨hx, hb, hml, hown, hts⟩ (c_X6_refuse l dC dI ka ad ct h0 1 (qI gs h0 3) _ _ _ hc_11 _) (cwV 2 hts gq_X6_tell_X6_refuse_48 rfl rfl rfl (by decide +kernel) ⟨Nat.le_of_ble_eq_true rfl, Nat.le_of_ble_eq_true rfl⟩) ⟨PrC.blind _, q_rv8 hK hp hC hk_9, q_pre hp hK hN hZ hC hR hL hA⟩ rfl rfl hl.1 rfl (lv_room (Nat.le_of_ble_eq_true rfl)) dX6_tell_70 ⟨by show qn gs - qn st + 0 ≤ qn st' - qn st; have := hmr.1; have := hm.1; have := hmc.1; omega, by show qs gs - qs st + 0 ≤ qs st' - qs st; have := hmr.2.1; have := hm.2.1; have := hmc.2.1; omega⟩) (fun H locs hp => ?_)
          have hk_9 : qk st_10 h0 = 9 := by rw [(mo_X6_refuse h0 1 (qI gs h0 3) _ _ _ hc_11).2.2.1]; exact hk_9
          refine W.widen (k := qn st_10 - qn st) (n := qs st_10 - qs st) (by have := hmc.1; omega) (by have := hmc.2.1; omega) ?_
          have hm := hm.tr hmc
          exact J73 (l1, l2, l3, r_12, st_10) _ _ _ ⟨hf, hp, (lv_sub hl [0, 1, 2, 3] rfl), hm⟩
      · have hf := pif_f c_3 hf
        refine o_aload_n hx hb dX6_tell_56 rfl (lv_at hl 2 rfl) ?_
        obtain ⟨e1, e2⟩ := pr_some hf
        refine W.widen (k := qn st' - qn st) (n := qs st' - qs st) (by rw [e2]; exact Nat.le_refl _) (by rw [e2]; exact Nat.le_refl _) ?_
        exact W.aret (v := va_rf (Option.map ad l2)) hx hb hr (Or.inl ⟨_, rfl⟩) (rf_or _) (fun t ht hW => ⟨⟨Option.map ad l2, (), rfl, by rw [e1], Cp.end e2 hp ht⟩, hp.2.1.F ht⟩) hp.2.1.2.2 dX6_tell_57
    refine W_blkA (fun (u : Int32 × (Option Nat) × Int32 × CS) H locs ls => match u with | (l1, l2, l3, gs) => fX6_tell_42 h0 (fX6_tell_25 h0 n25) l1 l2 l3 gs = some (r, st') ∧ Cp (dC, dI) ka ad ct A s.heap gs H locs ∧ lv_has ls 4 [(0, .ref (ad h0)), (1, .int l1), (2, va_rf (Option.map ad l2)), (3, .int l3)] ∧ Mo st gs) (fun (u : Int32 × (Option Nat) × Int32 × CS) ls => match u with | (l1, l2, l3, gs) => F0 m 42 ls []) (fun (u : Int32 × (Option Nat) × Int32 × CS) => match u with | (l1, l2, l3, gs) => qn gs - qn st) (fun (u : Int32 × (Option Nat) × Int32 × CS) => match u with | (l1, l2, l3, gs) => qs gs - qs st) ?_ (fun J42 => ?_)
    · intro u H locs ls hu
      obtain ⟨l1, l2, l3, gs⟩ := u
      obtain ⟨hf, hp, hl, hm⟩ := hu
      show W p l e _ s m _ below meth c _ _ (qn gs - qn st) (qs gs - qs st) _ (F0 m 42 ls [])
      unfold fX6_tell_42 at hf
      refine lv_aload_n hx hb dX6_tell_42 rfl (lv_at hl 0 rfl) ?_
      obtain ⟨hk_13, hf⟩ := gd_some hf
      refine q_gi (ci := 8) (C := RX6) (T := TX6) (N := 6) (k := 3) hx hb hts iRX6 hown hK hp hk_13 (by decide) rfl rfl (by decide) rfl (Or.inl (hts (.fieldLink RX6 26 "RecordBench$TextReader" "pos" "I") (by decide +kernel))) (fun _ h9 => h9) dX6_tell_43 ?_
      refine lv_aload_n hx hb dX6_tell_46 rfl (lv_at hl 0 rfl) ?_
      refine q_gp (ci := 8) (C := RX6) (T := TX6) (N := 6) (k := 0) hx hb hts iRX6 hown hK hp hk_13 (by decide) rfl rfl (by decide) rfl (Or.inl (hts (.fieldLink RX6 9 "RecordBench$TextReader" "tape" "LRecordBench$Row;") (by decide +kernel))) (fun _ h9 => h9) dX6_tell_47 ?_
      obtain ⟨a_14, ha_15, hf⟩ := ono_some hf
      refine o_at ha_15 ?_
      obtain ⟨hk_16, hf⟩ := gd_some hf
      obtain ⟨r_19, st_17, hc_18, hf⟩ := bnd_some hf
      have hmc := (mo_X5_size a_14 _ _ _ hc_18).mo
      have hmr := mo_X6_tell_53 h0 (fX6_tell_25 h0 n25) (mo_X6_tell_25 h0 n25) _ _ _ _ _ _ _ _ hf
      refine q_ci hp hA (va_runV (As := []) (rest := [.int (qI gs h0 3)]) ⟨hx, hb, hml, hown, hts⟩ (c_X5_size l dC dI ka ad ct a_14 _ _ _ hc_18 _) (cwV 0 hts gq_X6_tell_X5_size_42 rfl rfl rfl (by decide +kernel) ⟨Nat.le_of_ble_eq_true rfl, Nat.le_of_ble_eq_true rfl⟩) ⟨PrC.blind _, q_rv7 hK hp hC hk_16, q_pre hp hK hN hZ hC hR hL hA⟩ rfl rfl hl.1 rfl (lv_room (Nat.le_of_ble_eq_true rfl)) dX6_tell_50 ⟨by show qn gs - qn st + 0 ≤ qn st' - qn st; have := hmr.1; have := hm.1; have := hmc.1; omega, by show qs gs - qs st + 0 ≤ qs st' - qs st; have := hmr.2.1; have := hm.2.1; have := hmc.2.1; omega⟩) (fun H locs hp => ?_)
      have hk_13 : qk st_17 h0 = 9 := by rw [(mo_X5_size a_14 _ _ _ hc_18).2.2.1]; exact hk_13
      have hk_16 : qk st_17 a_14 = 8 := by rw [(mo_X5_size a_14 _ _ _ hc_18).2.2.1]; exact hk_16
      refine W.widen (k := qn st_17 - qn st) (n := qs st_17 - qs st) (by have := hmc.1; omega) (by have := hmc.2.1; omega) ?_
      have hm := hm.tr hmc
      exact J53 (l1, l2, l3, r_19, (qI gs h0 3), st_17) _ _ _ ⟨hf, hp, (lv_sub hl [0, 1, 2, 3] rfl), hm⟩
    rw [fX6_tell_25_s] at hf
    refine lv_iload_n hx hb dX6_tell_25 rfl (lv_at hl 3 rfl) ?_
    refine lv_bipush (v := 10) hx hb dX6_tell_26 (by decide) ?_
    refine lv_icmp_gt (tgt := 90) hx hb dX6_tell_28 (by decide) (fun c_20 => ?_) (fun c_20 => ?_)
    · have hf := pif_t c_20 hf
      refine lv_null hx hb dX6_tell_90 ?_
      obtain ⟨e1, e2⟩ := pr_some hf
      refine W.widen (k := qn st' - qn st) (n := qs st' - qs st) (by rw [e2]; exact Nat.le_refl _) (by rw [e2]; exact Nat.le_refl _) ?_
      exact W.aret (v := va_rf (Option.map ad none)) hx hb hr (Or.inl ⟨_, rfl⟩) (rf_or _) (fun t ht hW => ⟨⟨Option.map ad none, (), rfl, by rw [e1], Cp.end e2 hp ht⟩, hp.2.1.F ht⟩) hp.2.1.2.2 dX6_tell_91
    · have hf := pif_f c_20 hf
      refine lv_aload_n hx hb dX6_tell_31 rfl (lv_at hl 0 rfl) ?_
      obtain ⟨hk_21, hf⟩ := gd_some hf
      refine q_gi (ci := 8) (C := RX6) (T := TX6) (N := 6) (k := 4) hx hb hts iRX6 hown hK hp hk_21 (by decide) rfl rfl (by decide) rfl (Or.inl (hts (.fieldLink RX6 30 "RecordBench$TextReader" "fault" "I") (by decide +kernel))) (fun _ h9 => h9) dX6_tell_32 ?_
      refine lv_if_ne (tgt := 90) hx hb dX6_tell_35 (by decide) (fun c_22 => ?_) (fun c_22 => ?_)
      · have hf := pif_f c_22 hf
        refine lv_null hx hb dX6_tell_90 ?_
        obtain ⟨e1, e2⟩ := pr_some hf
        refine W.widen (k := qn st' - qn st) (n := qs st' - qs st) (by rw [e2]; exact Nat.le_refl _) (by rw [e2]; exact Nat.le_refl _) ?_
        exact W.aret (v := va_rf (Option.map ad none)) hx hb hr (Or.inl ⟨_, rfl⟩) (rf_or _) (fun t ht hW => ⟨⟨Option.map ad none, (), rfl, by rw [e1], Cp.end e2 hp ht⟩, hp.2.1.F ht⟩) hp.2.1.2.2 dX6_tell_91
      · have hf := pif_t c_22 hf
        refine lv_aload_n hx hb dX6_tell_38 rfl (lv_at hl 0 rfl) ?_
        obtain ⟨st_23, hc_24, hf⟩ := bnv_some hf
        have hmc := (mo_X6_skipBlanks h0 _ _ hc_24).mo
        have hmr := mo_X6_tell_42 h0 (fX6_tell_25 h0 n25) (mo_X6_tell_25 h0 n25) _ _ _ _ _ _ hf
        refine q_cv hp hA (va_runV (As := []) (rest := []) ⟨hx, hb, hml, hown, hts⟩ (c_X6_skipBlanks l dC dI ka ad ct h0 _ _ hc_24 _) (cwV 0 hts gq_X6_tell_X6_skipBlanks_39 rfl rfl rfl (by decide +kernel) ⟨Nat.le_of_ble_eq_true rfl, Nat.le_of_ble_eq_true rfl⟩) ⟨PrC.blind _, q_rv8 hK hp hC hk_21, q_pre hp hK hN hZ hC hR hL hA⟩ rfl rfl hl.1 rfl (lv_room (Nat.le_of_ble_eq_true rfl)) dX6_tell_39 ⟨by show qn gs - qn st + 0 ≤ qn st' - qn st; have := hmr.1; have := hm.1; have := hmc.1; omega, by show qs gs - qs st + 0 ≤ qs st' - qs st; have := hmr.2.1; have := hm.2.1; have := hmc.2.1; omega⟩) (fun H locs hp => ?_)
        have hk_21 : qk st_23 h0 = 9 := by rw [(mo_X6_skipBlanks h0 _ _ hc_24).2.2.1]; exact hk_21
        refine W.widen (k := qn st_23 - qn st) (n := qs st_23 - qs st) (by have := hmc.1; omega) (by have := hmc.2.1; omega) ?_
        have hm := hm.tr hmc
        exact J42 (l1, l2, l3, st_23) _ _ _ ⟨hf, hp, (lv_sub hl [0, 1, 2, 3] rfl), hm⟩
  refine W_blkA (fun (u : Int32 × (Option Nat) × CS) H locs ls => match u with | (l1, s0, gs) => fX6_tell_22 h0 l1 s0 gs = some (r, st') ∧ Cp (dC, dI) ka ad ct A s.heap gs H locs ∧ lv_has ls 4 [(0, .ref (ad h0)), (1, .int l1)] ∧ Mo st gs) (fun (u : Int32 × (Option Nat) × CS) ls => match u with | (l1, s0, gs) => F0 m 22 ls [va_rf (Option.map ad s0)]) (fun (u : Int32 × (Option Nat) × CS) => match u with | (l1, s0, gs) => qn gs - qn st) (fun (u : Int32 × (Option Nat) × CS) => match u with | (l1, s0, gs) => qs gs - qs st) ?_ (fun J22 => ?_)
  · intro u H locs ls hu
    obtain ⟨l1, s0, gs⟩ := u
    obtain ⟨hf, hp, hl, hm⟩ := hu
    show W p l e _ s m _ below meth c _ _ (qn gs - qn st) (qs gs - qs st) _ (F0 m 22 ls [va_rf (Option.map ad s0)])
    unfold fX6_tell_22 at hf
    refine o_astore_n (i := 2) (lv' := [(2, va_rf (Option.map ad s0)), (0, .ref (ad h0)), (1, .int l1)]) hx hb dX6_tell_22 rfl hl (by decide) rfl (fun ls hl => ?_)
    refine lv_iconst (v := 0) hx hb dX6_tell_23 (by decide) ?_
    refine lv_istore_n (i := 3) (lv' := [(3, .int 0), (2, va_rf (Option.map ad s0)), (0, .ref (ad h0)), (1, .int l1)]) hx hb dX6_tell_24 rfl hl (by decide) (by simp [rf_cat, vc_i, vc_l, vc_r, vc_n]) (fun ls hl => ?_)
    exact J25 fuel (l1, s0, 0, gs) _ _ _ ⟨hf, hp, (lv_sub hl [2, 3, 1, 0] rfl), hm⟩
  refine W_blkA (fun (u : Int32 × (Option Nat) × CS) H locs ls => match u with | (l1, s0, gs) => fX6_tell_18 h0 l1 s0 gs = some (r, st') ∧ Cp (dC, dI) ka ad ct A s.heap gs H locs ∧ lv_has ls 4 [(0, .ref (ad h0)), (1, .int l1)] ∧ Mo st gs) (fun (u : Int32 × (Option Nat) × CS) ls => match u with | (l1, s0, gs) => F0 m 18 ls [va_rf (Option.map ad s0)]) (fun (u : Int32 × (Option Nat) × CS) => match u with | (l1, s0, gs) => qn gs - qn st) (fun (u : Int32 × (Option Nat) × CS) => match u with | (l1, s0, gs) => qs gs - qs st) ?_ (fun J18 => ?_)
  · intro u H locs ls hu
    obtain ⟨l1, s0, gs⟩ := u
    obtain ⟨hf, hp, hl, hm⟩ := hu
    show W p l e _ s m _ below meth c _ _ (qn gs - qn st) (qs gs - qs st) _ (F0 m 18 ls [va_rf (Option.map ad s0)])
    unfold fX6_tell_18 at hf
    refine lv_dup hx hb dX6_tell_18 (rf_cat _) ?_
    obtain ⟨a_26, ha_27, hf⟩ := ono_some hf
    refine o_at ha_27 ?_
    obtain ⟨hk_28, hf⟩ := gd_some hf
    obtain ⟨st_29, hc_30, hf⟩ := bnv_some hf
    have lthk_28 := hp.2.2.1.lt (i := a_26) (by rw [hk_28]; decide)
    have hmc := (mo_X1_init a_26 _ _ hc_30)
    have hmr := mo_X6_tell_22 h0 _ _ _ _ _ hf
    refine q_cv hp hA (va_runIN (As := []) (rest := [va_rf (Option.map ad s0)]) ⟨hx, hb, hml, hown, hts⟩ (c_X1_init l dC dI ka ad ct a_26 _ _ hc_30 _) ⟨va_cnB 0 hts gq_X6_tell_X1_init_38 rfl rfl rfl (hN.1 (.methodLinkNest RX6 38 yX1_init "RecordBench") (by decide +kernel)) (hts (.initialized RX1) (by decide +kernel)) (by decide +kernel) ⟨Nat.le_of_ble_eq_true rfl, Nat.le_of_ble_eq_true rfl⟩, rfl, (hts (.instanceMethod yX1_init) (by decide +kernel))⟩ ⟨PrC.blind _, q_pre hp hK hN hZ hC hR hL hA⟩ rfl rfl hl.1 rfl (lv_room (by simp [rf_cat, vc_i, vc_l, vc_r, vc_n])) dX6_tell_19 ⟨by show qn gs - qn st + (qn st_29 - qn gs) ≤ qn st' - qn st; have := hmr.1; have := hm.1; have := hmc.1; omega, by show qs gs - qs st + (qs st_29 - qs gs) ≤ qs st' - qs st; have := hmr.2.1; have := hm.2.1; have := hmc.2.1; omega⟩) (fun H locs hp => ?_)
    have hk_28 : qk st_29 a_26 = 4 := ((mo_X1_init a_26 _ _ hc_30).2.2 _ lthk_28).1.trans hk_28
    refine W.widen (k := qn st_29 - qn st) (n := qs st_29 - qs st) (by have := hm.1; have := hmc.1; omega) (by have := hm.2.1; have := hmc.2.1; omega) ?_
    have hm := hm.tr hmc
    exact J22 (l1, s0, st_29) _ _ _ ⟨hf, hp, (lv_sub hl [0, 1] rfl), hm⟩
  unfold fX6_tell at hf
  refine lv_aload_n hx hb dX6_tell_0 rfl (lv_at hl 0 rfl) ?_
  refine lv_iconst (v := 0) hx hb dX6_tell_1 (by decide) ?_
  obtain ⟨hk_32, hf⟩ := gd_some hf
  refine q_pi (ci := 8) (C := RX6) (T := TX6) (N := 6) (k := 3) (v := 0) (ty := .int) hx hb hts iRX6 tyX6 tyX6_ok nmX6 hown hK hp hk_32 (by decide) rfl rfl (by decide) rfl (Or.inl (hts (.fieldLink RX6 26 "RecordBench$TextReader" "pos" "I") (by decide +kernel))) (fun _ h9 => h9) rfl (by decide +kernel) rfl rfl dX6_tell_2 (fun H locs hp => ?_)
  obtain ⟨st_33, est_33, hf⟩ := nam_some hf
  rw [← est_33] at hp
  have hm := hm.wI est_33
  refine W.widen (k := qn st_33 - qn st) (n := qs st_33 - qs st) (by rw [est_33]; exact Nat.le_refl _) (by rw [est_33]; exact Nat.le_refl _) ?_
  have hk_32 : qk st_33 h0 = 9 := by rw [est_33]; exact hk_32
  refine lv_aload_n hx hb dX6_tell_5 rfl (lv_at hl 0 rfl) ?_
  refine lv_iconst (v := 0) hx hb dX6_tell_6 (by decide) ?_
  refine q_pi (ci := 8) (C := RX6) (T := TX6) (N := 6) (k := 4) (v := 0) (ty := .int) hx hb hts iRX6 tyX6 tyX6_ok nmX6 hown hK hp hk_32 (by decide) rfl rfl (by decide) rfl (Or.inl (hts (.fieldLink RX6 30 "RecordBench$TextReader" "fault" "I") (by decide +kernel))) (fun _ h9 => h9) rfl (by decide +kernel) rfl rfl dX6_tell_7 (fun H locs hp => ?_)
  obtain ⟨st_34, est_34, hf⟩ := nam_some hf
  rw [← est_34] at hp
  have hm := hm.wI est_34
  refine W.widen (k := qn st_34 - qn st) (n := qs st_34 - qs st) (by rw [est_34]; exact Nat.le_refl _) (by rw [est_34]; exact Nat.le_refl _) ?_
  have hk_32 : qk st_34 h0 = 9 := by rw [est_34]; exact hk_32
  refine lv_aload_n hx hb dX6_tell_10 rfl (lv_at hl 0 rfl) ?_
  refine lv_iconst (v := (-1)) hx hb dX6_tell_11 (by decide) ?_
  refine q_pi (ci := 8) (C := RX6) (T := TX6) (N := 6) (k := 5) (v := (-1)) (ty := .int) hx hb hts iRX6 tyX6 tyX6_ok nmX6 hown hK hp hk_32 (by decide) rfl rfl (by decide) rfl (Or.inl (hts (.fieldLink RX6 33 "RecordBench$TextReader" "place" "I") (by decide +kernel))) (fun _ h9 => h9) rfl (by decide +kernel) rfl rfl dX6_tell_12 (fun H locs hp => ?_)
  obtain ⟨st_35, est_35, hf⟩ := nam_some hf
  rw [← est_35] at hp
  have hm := hm.wI est_35
  refine W.widen (k := qn st_35 - qn st) (n := qs st_35 - qs st) (by rw [est_35]; exact Nat.le_refl _) (by rw [est_35]; exact Nat.le_refl _) ?_
  have hk_32 : qk st_35 h0 = 9 := by rw [est_35]; exact hk_32
  have lthk_32 := hp.2.2.1.lt (i := h0) (by rw [hk_32]; decide)
  obtain ⟨st_36, est_36, hf⟩ := nam_some hf
  have hmr := mo_X6_tell_18 h0 _ _ _ _ _ hf
  refine q_new (ci := 3) (C := RX1) (T := TX1) (N := 2) hx hb hts iRX1 tyX1 tyX1_ok hown (hts (.classLink RX6 36 RX1) (by decide +kernel)) (hts (.instantiable RX1 2) (by decide +kernel)) (hts (.initialized RX1) (by decide +kernel)) hK hp hA (by decide) rfl rfl dvX1 (by show qn st_35 - qn st + 1 ≤ qn st' - qn st; have := hmr.1; have := hm.1; have := (wN_n est_36).1; omega) (by show qs st_35 - qs st + 2 ≤ qs st' - qs st; have := hmr.2.1; have := hm.2.1; have := (wN_n est_36).2; omega) dX6_tell_15 (fun H hp => ?_)
  rw [← est_36] at hp
  have hk_32 : qk st_36 h0 = 9 := by rw [est_36]; exact (va_up_ne _ _ (Nat.ne_of_lt lthk_32)).trans hk_32
  refine W.widen (k := qn st_36 - qn st) (n := qs st_36 - qs st) (by have := hm.1; have := (wN_n est_36).1; omega) (by have := hm.2.1; have := (wN_n est_36).2; omega) ?_
  have hm := hm.wN est_36
  exact J18 (p0, (some (qn st_35)), st_36) _ _ _ ⟨hf, hp, (lv_sub hl [0, 1] rfl), hm⟩
noncomputable def fX8_make_79 (h0 : Nat)  (s0 : Int32) (gs : CS) : Option (Int32 × CS) := some (s0, gs)
set_option maxHeartbeats 1000000 in
theorem mo_X8_make_79 (h0 : Nat)   (s0 : Int32) (gs : CS) (r : Int32) (st' : CS) (hf : fX8_make_79 h0 s0 gs = some (r, st')) : Mo gs st' := by
  unfold fX8_make_79 at hf
  have hm : Mo gs gs := Mo.rf
  obtain ⟨e1, e2⟩ := pr_some hf
  exact e2 ▸ hm
noncomputable def fX8_make_59 (h0 : Nat)  (l1 : Int32) (l2 : Option Nat) (s0 : Int32) (gs : CS) : Option (Int32 × CS) := gd (qk gs h0 = 11) (nam (wI gs h0 10 s0) (fun st_2 => pif (l2 = none) (some (((-1) : Int32), st_2)) (ono l2 (fun a_4 => gd (qk st_2 a_4 = 4) (ono (qP st_2 h0 2) (fun a_7 => gd (qk st_2 a_7 = 24) (gd (vp_in l1 (ql st_2 a_7)) (nam (wP st_2 a_7 l1.toNatClampNeg (some a_4)) (fun st_11 => bnd (fX1_count a_4 st_11) (fun r_14 st_12 => fX8_make_79 h0 r_14 st_12))))))))))
set_option maxHeartbeats 1000000 in
theorem mo_X8_make_59 (h0 : Nat)   (l1 : Int32) (l2 : Option Nat) (s0 : Int32) (gs : CS) (r : Int32) (st' : CS) (hf : fX8_make_59 h0 l1 l2 s0 gs = some (r, st')) : Mo gs st' := by
  unfold fX8_make_59 at hf
  have hm : Mo gs gs := Mo.rf
  obtain ⟨hk_1, hf⟩ := gd_some hf
  obtain ⟨st_2, est_2, hf⟩ := nam_some hf
  have hm := hm.wI est_2
  rcases pif_or hf with ⟨c_3, hf⟩ | ⟨c_3, hf⟩
  · obtain ⟨e1, e2⟩ := pr_some hf
    exact e2 ▸ hm
  · obtain ⟨a_4, ha_5, hf⟩ := ono_some hf
    obtain ⟨hk_6, hf⟩ := gd_some hf
    obtain ⟨a_7, ha_8, hf⟩ := ono_some hf
    obtain ⟨hk_9, hf⟩ := gd_some hf
    obtain ⟨g_10, hf⟩ := gd_some hf
    obtain ⟨st_11, est_11, hf⟩ := nam_some hf
    have hm := hm.wP est_11
    obtain ⟨r_14, st_12, hc_13, hf⟩ := bnd_some hf
    have hm := hm.ke (mo_X1_count a_4 _ _ _ hc_13)
    exact hm.tr (mo_X8_make_79 h0 r_14 st_12 _ _ hf)
noncomputable def fX8_make_48 (h0 : Nat)  (l1 : Int32) (l2 : Option Nat) (s0 : Int32) (gs : CS) : Option (Int32 × CS) := gd (qk gs h0 = 11) (nam (wI gs h0 9 s0) (fun st_16 => ono (qP st_16 h0 3) (fun a_17 => gd (qk st_16 a_17 = 9) (bnd (fX6_placeFound a_17 st_16) (fun r_22 st_20 => fX8_make_59 h0 l1 l2 r_22 st_20)))))
set_option maxHeartbeats 1000000 in
theorem mo_X8_make_48 (h0 : Nat)   (l1 : Int32) (l2 : Option Nat) (s0 : Int32) (gs : CS) (r : Int32) (st' : CS) (hf : fX8_make_48 h0 l1 l2 s0 gs = some (r, st')) : Mo gs st' := by
  unfold fX8_make_48 at hf
  have hm : Mo gs gs := Mo.rf
  obtain ⟨hk_15, hf⟩ := gd_some hf
  obtain ⟨st_16, est_16, hf⟩ := nam_some hf
  have hm := hm.wI est_16
  obtain ⟨a_17, ha_18, hf⟩ := ono_some hf
  obtain ⟨hk_19, hf⟩ := gd_some hf
  obtain ⟨r_22, st_20, hc_21, hf⟩ := bnd_some hf
  have hm := hm.ke (mo_X6_placeFound a_17 _ _ _ hc_21)
  exact hm.tr (mo_X8_make_59 h0 l1 l2 r_22 st_20 _ _ hf)
noncomputable def fX8_make_39 (h0 : Nat)  (l1 : Int32) (l2 : Option Nat) (s0 : Int32) (gs : CS) : Option (Int32 × CS) := gd (qk gs h0 = 11) (ono (qP gs h0 3) (fun a_24 => gd (qk gs a_24 = 9) (bnd (fX6_faultFound a_24 gs) (fun r_29 st_27 => fX8_make_48 h0 l1 l2 r_29 st_27))))
set_option maxHeartbeats 1000000 in
theorem mo_X8_make_39 (h0 : Nat)   (l1 : Int32) (l2 : Option Nat) (s0 : Int32) (gs : CS) (r : Int32) (st' : CS) (hf : fX8_make_39 h0 l1 l2 s0 gs = some (r, st')) : Mo gs st' := by
  unfold fX8_make_39 at hf
  have hm : Mo gs gs := Mo.rf
  obtain ⟨hk_23, hf⟩ := gd_some hf
  obtain ⟨a_24, ha_25, hf⟩ := ono_some hf
  obtain ⟨hk_26, hf⟩ := gd_some hf
  obtain ⟨r_29, st_27, hc_28, hf⟩ := bnd_some hf
  have hm := hm.ke (mo_X6_faultFound a_24 _ _ _ hc_28)
  exact hm.tr (mo_X8_make_48 h0 l1 l2 r_29 st_27 _ _ hf)
noncomputable def fX8_make_30 (h0 : Nat)  (l1 : Int32) (s0 : Option Nat) (gs : CS) : Option (Int32 × CS) := gd (qk gs h0 = 11) (ono (qP gs h0 0) (fun a_31 => gd (qk gs a_31 = 8) (bnd (fX5_cut a_31 0 gs) (fun r_36 st_34 => fX8_make_39 h0 l1 s0 r_36 st_34))))
set_option maxHeartbeats 1000000 in
theorem mo_X8_make_30 (h0 : Nat)   (l1 : Int32) (s0 : Option Nat) (gs : CS) (r : Int32) (st' : CS) (hf : fX8_make_30 h0 l1 s0 gs = some (r, st')) : Mo gs st' := by
  unfold fX8_make_30 at hf
  have hm : Mo gs gs := Mo.rf
  obtain ⟨hk_30, hf⟩ := gd_some hf
  obtain ⟨a_31, ha_32, hf⟩ := ono_some hf
  obtain ⟨hk_33, hf⟩ := gd_some hf
  obtain ⟨r_36, st_34, hc_35, hf⟩ := bnd_some hf
  have hm := hm.ke (mo_X5_cut a_31 0 _ _ _ hc_35)
  exact hm.tr (mo_X8_make_39 h0 l1 s0 r_36 st_34 _ _ hf)
noncomputable def fX8_make (h0 : Nat) (p0 : Int32) (st : CS) : Option (Int32 × CS) := pif (p0 < 0) (some (((-2) : Int32), st)) (pif (8 ≤ p0) (some (((-2) : Int32), st)) (gd (qk st h0 = 11) (ono (qP st h0 2) (fun a_40 => gd (qk st a_40 = 24) (gd (vp_in p0 (ql st a_40)) (pif ((qP st a_40 p0.toNatClampNeg) = none) (ono (qP st h0 3) (fun a_45 => gd (qk st a_45 = 9) (bnd (fX6_tell a_45 p0 st) (fun r_50 st_48 => fX8_make_30 h0 p0 r_50 st_48)))) (some (((-2) : Int32), st))))))))
set_option maxHeartbeats 1000000 in
theorem mo_X8_make (h0 : Nat) (p0 : Int32) (st : CS) (r : Int32) (st' : CS) (hf : fX8_make h0 p0 st = some (r, st')) : Mo st st' := by
  unfold fX8_make at hf
  have hm : Mo st st := Mo.rf
  rcases pif_or hf with ⟨c_37, hf⟩ | ⟨c_37, hf⟩
  · obtain ⟨e1, e2⟩ := pr_some hf
    exact e2 ▸ hm
  · rcases pif_or hf with ⟨c_38, hf⟩ | ⟨c_38, hf⟩
    · obtain ⟨e1, e2⟩ := pr_some hf
      exact e2 ▸ hm
    · obtain ⟨hk_39, hf⟩ := gd_some hf
      obtain ⟨a_40, ha_41, hf⟩ := ono_some hf
      obtain ⟨hk_42, hf⟩ := gd_some hf
      obtain ⟨g_43, hf⟩ := gd_some hf
      rcases pif_or hf with ⟨c_44, hf⟩ | ⟨c_44, hf⟩
      · obtain ⟨a_45, ha_46, hf⟩ := ono_some hf
        obtain ⟨hk_47, hf⟩ := gd_some hf
        obtain ⟨r_50, st_48, hc_49, hf⟩ := bnd_some hf
        have hm := hm.tr (mo_X6_tell a_45 p0 _ _ _ hc_49)
        exact hm.tr (mo_X8_make_30 h0 p0 r_50 st_48 _ _ hf)
      · obtain ⟨e1, e2⟩ := pr_some hf
        exact e2 ▸ hm
def wq_X8_make : List Cond := .code yX8_make cX8_make 3 (some .int) :: (([.fieldLink RX8 24 "RecordBench" "makes" "[LRecordBench$Make;", .fieldLink RX8 33 "RecordBench" "texts" "LRecordBench$TextReader;", .fieldLink RX8 14 "RecordBench" "tape" "LRecordBench$Row;", .fieldLink RX8 66 "RecordBench" "latestFault" "I", .fieldLink RX8 70 "RecordBench" "latestPlace" "I", .methodLink RX8 97 yX1_count, .instanceMethod yX1_count, .selects RX1 yX1_count yX1_count, .initialized RX1, .methodLink RX8 94 yX6_placeFound, .instanceMethod yX6_placeFound, .selects RX6 yX6_placeFound yX6_placeFound, .initialized RX6, .methodLink RX8 91 yX6_faultFound, .instanceMethod yX6_faultFound, .selects RX6 yX6_faultFound yX6_faultFound, .methodLink RX8 83 yX5_cut, .instanceMethod yX5_cut, .selects RX5 yX5_cut yX5_cut, .initialized RX5, .methodLink RX8 87 yX6_tell, .instanceMethod yX6_tell, .selects RX6 yX6_tell yX6_tell, .code yX1_count cX1_count 1 (some .int), .fieldLink RX1 17 "RecordBench$Make" "count" "I", .code yX6_placeFound cX6_placeFound 1 (some .int), .fieldLink RX6 33 "RecordBench$TextReader" "place" "I", .code yX6_faultFound cX6_faultFound 1 (some .int), .fieldLink RX6 30 "RecordBench$TextReader" "fault" "I", .code yX5_cut cX5_cut 2 (some .boolean), .fieldLink RX5 21 "RecordBench$Row" "size" "I", .code yX6_tell cX6_tell 4 (some (.object "RecordBench$Make")), .fieldLink RX6 26 "RecordBench$TextReader" "pos" "I", .fieldLink RX6 9 "RecordBench$TextReader" "tape" "LRecordBench$Row;", .methodLink RX6 52 yX6_takeField, .instanceMethod yX6_takeField, .selects RX6 yX6_takeField yX6_takeField, .methodLink RX6 48 yX6_refuse, .instanceMethod yX6_refuse, .selects RX6 yX6_refuse yX6_refuse, .methodLink RX6 42 yX5_size, .instanceMethod yX5_size, .selects RX5 yX5_size yX5_size, .methodLink RX6 39 yX6_skipBlanks, .instanceMethod yX6_skipBlanks, .selects RX6 yX6_skipBlanks yX6_skipBlanks, .instanceMethod yX1_init, .classLink RX6 36 RX1, .instantiable RX1 2, .code yX6_takeField cX6_takeField 6 (some .boolean), .methodLink RX6 90 yX1_add, .instanceMethod yX1_add, .selects RX1 yX1_add yX1_add, .methodLink RX6 87 yX6_takeClose, .instanceMethod yX6_takeClose, .selects RX6 yX6_takeClose yX6_takeClose, .methodLink RX6 84 yX6_takeDefault, .instanceMethod yX6_takeDefault, .selects RX6 yX6_takeDefault yX6_takeDefault, .methodLink RX6 80 yX6_takeGroup, .instanceMethod yX6_takeGroup, .selects RX6 yX6_takeGroup yX6_takeGroup, .methodLink RX6 76 yX6_takeKind, .instanceMethod yX6_takeKind, .selects RX6 yX6_takeKind yX6_takeKind, .methodLink RX6 70 yJ0_isEmpty_aae02, .instanceMethod yJ0_isEmpty_aae02, .selects RJ0 yJ0_isEmpty_aae02 yJ0_isEmpty_aae02, .initialized RJ0, .methodLink RX6 63 yX6_takeName, .instanceMethod yX6_takeName, .selects RX6 yX6_takeName yX6_takeName, .methodLink RX6 59 yX6_takeNumber, .instanceMethod yX6_takeNumber, .selects RX6 yX6_takeNumber yX6_takeNumber, .instanceMethod yX0_init, .initialized RX0, .classLink RX6 56 RX0, .instantiable RX0 7, .code yX1_add cX1_add 2 (some .boolean), .fieldLink RX1 11 "RecordBench$Make" "fields" "[LRecordBench$Field;", .code yX6_takeClose cX6_takeClose 1 (some .boolean), .methodLink RX6 150 yX5_byteAt, .instanceMethod yX5_byteAt, .selects RX5 yX5_byteAt yX5_byteAt, .code yX6_skipBlanks cX6_skipBlanks 3 none, .methodLink RX6 189 yX6_isBlank, .static yX6_isBlank, .code yX5_size cX5_size 1 (some .int), .code yX5_byteAt cX5_byteAt 2 (some .int), .fieldLink RX5 15 "RecordBench$Row" "bytes" "[I", .code yX6_isBlank cX6_isBlank 1 (some .boolean), .code yX6_refuse cX6_refuse 3 (some .boolean), .code yX6_takeDefault cX6_takeDefault 2 (some .boolean), .methodLink RX6 156 yX6_takeValue, .instanceMethod yX6_takeValue, .selects RX6 yX6_takeValue yX6_takeValue, .methodLink RX6 153 yX6_takeText, .instanceMethod yX6_takeText, .selects RX6 yX6_takeText yX6_takeText, .code yX6_takeValue cX6_takeValue 10 (some .boolean), .constantLong RX6 159 (10), .constantLong RX6 161 (-9223372036854775808), .methodLink RX6 163 yX0_holds, .instanceMethod yX0_holds, .selects RX0 yX0_holds yX0_holds, .methodLink RX6 93 yX6_isDigit, .instanceMethod yX6_isDigit, .selects RX6 yX6_isDigit yX6_isDigit, .methodLink RX6 97 yX6_digitAt, .instanceMethod yX6_digitAt, .selects RX6 yX6_digitAt yX6_digitAt, .code yX0_holds cX0_holds 3 (some .boolean), .fieldLink RX0 15 "RecordBench$Field" "kind" "I", .constantLong RX0 37 (-128), .constantLong RX0 39 (127), .constantLong RX0 41 (-2147483648), .constantLong RX0 43 (2147483647), .code yX6_isDigit cX6_isDigit 3 (some .boolean), .code yX6_digitAt cX6_digitAt 3 (some .int), .code yX6_takeText cX6_takeText 3 (some .boolean), .fieldLink RX6 22 "RecordBench$TextReader" "letters" "Ljava/lang/StringBuilder;", .methodLink RX6 182 yJ4_toString_0e30d, .instanceMethod yJ4_toString_0e30d, .selects RJ4 yJ4_toString_0e30d yJ4_toString_0e30d, .initialized RJ4, .methodLink RX6 178 yJ4_append_cf468, .instanceMethod yJ4_append_cf468, .selects RJ4 yJ4_append_cf468 yJ4_append_cf468, .methodLink RX6 175 yX6_isQuotable, .static yX6_isQuotable, .methodLink RX6 171 yJ4_setLength_d00df, .instanceMethod yJ4_setLength_d00df, .selects RJ4 yJ4_setLength_d00df yJ4_setLength_d00df, .code yJ4_toString_0e30d cJ4_toString_0e30d 1 (some (.object "java/lang/String")), .instanceMethod yJ0_init_81219, .methodLink RJ4 137 yJ0_init_81219, .classLink RJ4 18 RJ0, .instantiable RJ0 4, .code yJ0_init_81219 cJ0_init_81219 2 none, .instanceMethod yJ0_init_db425, .methodLink RJ0 489 yJ0_init_db425, .code yJ0_init_db425 cJ0_init_db425 5 none, .methodLink RJ0 1 objectInit, .instanceMethod objectInit, .code objectInit ⟨#[0xb1]⟩ 1 none, .fieldLink RJ0 15 "java/lang/String" "coder" "B", .fieldLink RJ0 9 "java/lang/String" "value" "[B", .methodLink RJ0 54 yJ7_copyOfRange_39247, .static yJ7_copyOfRange_39247, .initialized RJ7, .methodLink RJ0 1047 ⟨"java/lang/AbstractStringBuilder", "isLatin1", "()Z"⟩, .sameMethod "java/lang/AbstractStringBuilder" "java/lang/AbstractStringBuilder" "isLatin1" "()Z", .selects RJ4 ⟨"java/lang/AbstractStringBuilder", "isLatin1", "()Z"⟩ yJ5_isLatin1_aae02, .instanceMethod yJ5_isLatin1_aae02, .initialized RJ5, .methodLink RJ0 549 ⟨"java/lang/AbstractStringBuilder", "length", "()I"⟩, .sameMethod "java/lang/AbstractStringBuilder" "java/lang/AbstractStringBuilder" "length" "()I", .instanceMethod yJ5_length_8abf5, .selects RJ4 ⟨"java/lang/AbstractStringBuilder", "length", "()I"⟩ yJ4_length_8abf5, .instanceMethod yJ4_length_8abf5, .methodLink RJ0 552 ⟨"java/lang/AbstractStringBuilder", "getValue", "()[B"⟩, .sameMethod "java/lang/AbstractStringBuilder" "java/lang/AbstractStringBuilder" "getValue" "()[B", .selects RJ4 ⟨"java/lang/AbstractStringBuilder", "getValue", "()[B"⟩ yJ5_getValue_6d5f1, .instanceMethod yJ5_getValue_6d5f1, .code yJ7_copyOfRange_39247 cJ7_copyOfRange_39247 3 (some (.array .byte)), .classLink RJ7 311 "[B", .methodLink RJ7 339 yJ7_copyOfRangeByte_39247, .static yJ7_copyOfRangeByte_39247, .methodLink RJ7 310 ⟨"[B", "clone", "()Ljava/lang/Object;"⟩, .sameMethod "[B" "java/lang/Object" "clone" "()Ljava/lang/Object;", .native ⟨"java/lang/Object", "clone", "()Ljava/lang/Object;"⟩, .instanceMethod ⟨"java/lang/Object", "clone", "()Ljava/lang/Object;"⟩, .selects "[B" ⟨"[B", "clone", "()Ljava/lang/Object;"⟩ ⟨"java/lang/Object", "clone", "()Ljava/lang/Object;"⟩, .code yJ7_copyOfRangeByte_39247 cJ7_copyOfRangeByte_39247 5 (some (.array .byte)), .methodLink RJ7 304 Lib.Math.min.name, .static Lib.Math.min.name, .initialized "java/lang/Math", .code Lib.Math.min.name Lib.Math.min.code 2 (some .int), .methodLink RJ7 150 arraycopyName, .native arraycopyName, .static arraycopyName, .initialized "java/lang/System", .arrayClass .byte, .methodLink RJ7 343 yJ7_checkLength_df160, .static yJ7_checkLength_df160, .code yJ7_checkLength_df160 cJ7_checkLength_df160 2 none, .code yJ5_isLatin1_aae02 cJ5_isLatin1_aae02 1 (some .boolean), .fieldLink RJ5 18 "java/lang/String" "COMPACT_STRINGS" "Z", .fieldLink RJ5 22 "java/lang/AbstractStringBuilder" "coder" "B", .code yJ4_length_8abf5 cJ4_length_8abf5 1 (some .int), .methodLink RJ4 343 yJ5_length_8abf5, .superclass RJ4 RJ5, .code yJ5_length_8abf5 cJ5_length_8abf5 1 (some .int), .fieldLink RJ5 79 "java/lang/AbstractStringBuilder" "count" "I", .code yJ5_getValue_6d5f1 cJ5_getValue_6d5f1 1 (some (.array .byte)), .fieldLink RJ5 15 "java/lang/AbstractStringBuilder" "value" "[B", .code yJ4_append_cf468 cJ4_append_cf468 2 (some (.object "java/lang/StringBuilder")), .methodLink RJ4 50 yJ5_append_3fe6f, .sameMethod "java/lang/AbstractStringBuilder" "java/lang/AbstractStringBuilder" "append" "(C)Ljava/lang/AbstractStringBuilder;", .instanceMethod yJ5_append_3fe6f, .code yJ5_append_3fe6f cJ5_append_3fe6f 2 (some (.object "java/lang/AbstractStringBuilder")), .methodLink RJ5 191 yJ1_canEncode_fc78d, .static yJ1_canEncode_fc78d, .initialized RJ1, .methodLink RJ5 83 ⟨"java/lang/AbstractStringBuilder", "isLatin1", "()Z"⟩, .methodLink RJ5 100 ⟨"java/lang/AbstractStringBuilder", "ensureCapacityInternal", "(I)V"⟩, .sameMethod "java/lang/AbstractStringBuilder" "java/lang/AbstractStringBuilder" "ensureCapacityInternal" "(I)V", .selects RJ4 ⟨"java/lang/AbstractStringBuilder", "ensureCapacityInternal", "(I)V"⟩ yJ5_ensureCapacityInternal_d00df, .instanceMethod yJ5_ensureCapacityInternal_d00df, .code yJ1_canEncode_fc78d cJ1_canEncode_fc78d 1 (some .boolean), .code yJ5_ensureCapacityInternal_d00df cJ5_ensureCapacityInternal_d00df 3 none, .methodLink RJ5 108 yJ7_copyOf_9075b, .static yJ7_copyOf_9075b, .methodLink RJ5 104 ⟨"java/lang/AbstractStringBuilder", "newCapacity", "(I)I"⟩, .sameMethod "java/lang/AbstractStringBuilder" "java/lang/AbstractStringBuilder" "newCapacity" "(I)I", .selects RJ4 ⟨"java/lang/AbstractStringBuilder", "newCapacity", "(I)I"⟩ yJ5_newCapacity_0f7a4, .instanceMethod yJ5_newCapacity_0f7a4, .code yJ7_copyOf_9075b cJ7_copyOf_9075b 3 (some (.array .byte)), .code yJ5_newCapacity_0f7a4 cJ5_newCapacity_0f7a4 6 (some .int), .constant RJ5 39 (2147483647), .methodLink RJ5 114 yJ8_newLength_cabcc, .static yJ8_newLength_cabcc, .initialized RJ8, .code yJ8_newLength_cabcc cJ8_newLength_cabcc 4 (some .int), .methodLink RJ8 194 Lib.Math.max.name, .static Lib.Math.max.name, .code Lib.Math.max.name Lib.Math.max.code 2 (some .int), .constant RJ8 200 (2147483639), .code yX6_isQuotable cX6_isQuotable 1 (some .boolean), .methodLink RX6 192 yX5_isTextByte, .static yX5_isTextByte, .code yX5_isTextByte cX5_isTextByte 1 (some .boolean), .code yJ4_setLength_d00df cJ4_setLength_d00df 2 none, .methodLink RJ4 333 yJ5_setLength_d00df, .sameMethod "java/lang/AbstractStringBuilder" "java/lang/AbstractStringBuilder" "setLength" "(I)V", .instanceMethod yJ5_setLength_d00df, .code yJ5_setLength_d00df cJ5_setLength_d00df 2 none, .fieldLink RJ5 73 "java/lang/AbstractStringBuilder" "maybeLatin1" "Z", .code yX6_takeGroup cX6_takeGroup 4 (some .boolean), .methodLink RX6 120 yJ0_equals_9ea2d, .instanceMethod yJ0_equals_9ea2d, .selects RJ0 yJ0_equals_9ea2d yJ0_equals_9ea2d, .methodLink RX6 111 yX6_takeWord, .instanceMethod yX6_takeWord, .selects RX6 yX6_takeWord yX6_takeWord, .methodLink RX6 108 yX6_isLetter, .instanceMethod yX6_isLetter, .selects RX6 yX6_isLetter yX6_isLetter, .code yJ0_equals_9ea2d cJ0_equals_9ea2d 3 (some .boolean), .classLink RJ0 10 "java/lang/String", .fieldLink RJ0 38 "java/lang/String" "COMPACT_STRINGS" "Z", .methodLink RJ0 541 yJ1_equals_b5fdf, .static yJ1_equals_b5fdf, .code yJ1_equals_b5fdf cJ1_equals_b5fdf 3 (some .boolean), .code yX6_takeWord cX6_takeWord 2 (some (.object "java/lang/String")), .methodLink RX6 188 yJ4_length_8abf5, .selects RJ4 yJ4_length_8abf5 yJ4_length_8abf5, .code yX6_isLetter cX6_isLetter 3 (some .boolean), .code yX6_takeKind cX6_takeKind 4 (some .boolean), .methodLink RX6 135 yX6_takeRec, .instanceMethod yX6_takeRec, .selects RX6 yX6_takeRec yX6_takeRec, .methodLink RX6 124 yX6_kindOf, .static yX6_kindOf, .code yX6_takeRec cX6_takeRec 4 (some .boolean), .fieldLink RX6 15 "RecordBench$TextReader" "makes" "[LRecordBench$Make;", .static yX8_makeOf, .initialized RX8, .code yX8_makeOf cX8_makeOf 2 (some (.object "RecordBench$Make")), .code yX6_kindOf cX6_kindOf 1 (some .int), .code yJ0_isEmpty_aae02 cJ0_isEmpty_aae02 1 (some .boolean), .code yX6_takeName cX6_takeName 5 (some .boolean), .methodLink RX6 128 yX1_hasName, .instanceMethod yX1_hasName, .selects RX1 yX1_hasName yX1_hasName, .methodLink RX6 115 yJ0_length_8abf5, .instanceMethod yJ0_length_8abf5, .selects RJ0 yJ0_length_8abf5 yJ0_length_8abf5, .code yX1_hasName cX1_hasName 4 (some .boolean), .methodLink RX1 32 yJ0_equals_9ea2d, .code yJ0_length_8abf5 cJ0_length_8abf5 1 (some .int), .methodLink RJ0 335 yJ0_coder_7d493, .instanceMethod yJ0_coder_7d493, .selects RJ0 yJ0_coder_7d493 yJ0_coder_7d493, .code yJ0_coder_7d493 cJ0_coder_7d493 1 (some .byte), .code yX6_takeNumber cX6_takeNumber 6 (some .boolean), .methodLink RX6 101 yX1_fieldAt, .instanceMethod yX1_fieldAt, .selects RX1 yX1_fieldAt yX1_fieldAt, .code yX1_fieldAt cX1_fieldAt 2 (some (.object "RecordBench$Field")), .code yX0_init cX0_init 1 none, .methodLink RX0 3 objectInit, .fieldLink RX0 9 "RecordBench$Field" "number" "I", .fieldLink RX0 18 "RecordBench$Field" "group" "I", .fieldLink RX0 21 "RecordBench$Field" "rec" "I", .fieldLink RX0 26 "RecordBench$Field" "name" "Ljava/lang/String;", .fieldLink RX0 30 "RecordBench$Field" "text" "Ljava/lang/String;", .fieldLink RX0 33 "RecordBench$Field" "value" "J", .code yX1_init cX1_init 1 none, .methodLink RX1 3 objectInit, .classLink RX1 9 RX0] : List Cond) ++ wsX80 ++ wsX10 ++ wsX60 ++ wsX50 ++ wsX00 ++ wsJ00 ++ wsJ40)
theorem gs_wq_X8_make_wsX10 : GoodIn wq_X8_make wsX10 := fun w h => ⟨List.mem_cons_of_mem _ (List.mem_append_left _ (List.mem_append_left _ (List.mem_append_left _ (List.mem_append_left _ (List.mem_append_left _ (List.mem_append_right _ h)))))), (gt_wsX10 w h).2⟩
set_option maxRecDepth 20000 in
theorem gq_X8_make_X1_count_97 : GoodIn wq_X8_make (wsV RX8 97 RX1 yX1_count wq_X1_count) := goodIn_app (goodIn_r _ [6, 7, 8, 9] rfl rfl) (goodIn_ca (goodIn_r _ [24, 25] rfl rfl) gs_wq_X8_make_wsX10)
theorem gs_wq_X8_make_wsX60 : GoodIn wq_X8_make wsX60 := fun w h => ⟨List.mem_cons_of_mem _ (List.mem_append_left _ (List.mem_append_left _ (List.mem_append_left _ (List.mem_append_left _ (List.mem_append_right _ h))))), (gt_wsX60 w h).2⟩
set_option maxRecDepth 20000 in
theorem gq_X8_make_X6_placeFound_94 : GoodIn wq_X8_make (wsV RX8 94 RX6 yX6_placeFound wq_X6_placeFound) := goodIn_app (goodIn_r _ [10, 11, 12, 13] rfl rfl) (goodIn_ca (goodIn_r _ [26, 27] rfl rfl) gs_wq_X8_make_wsX60)
set_option maxRecDepth 20000 in
theorem gq_X8_make_X6_faultFound_91 : GoodIn wq_X8_make (wsV RX8 91 RX6 yX6_faultFound wq_X6_faultFound) := goodIn_app (goodIn_r _ [14, 15, 16, 13] rfl rfl) (goodIn_ca (goodIn_r _ [28, 29] rfl rfl) gs_wq_X8_make_wsX60)
theorem gs_wq_X8_make_wsX50 : GoodIn wq_X8_make wsX50 := fun w h => ⟨List.mem_cons_of_mem _ (List.mem_append_left _ (List.mem_append_left _ (List.mem_append_left _ (List.mem_append_right _ h)))), (gt_wsX50 w h).2⟩
set_option maxRecDepth 20000 in
theorem gq_X8_make_X5_cut_83 : GoodIn wq_X8_make (wsV RX8 83 RX5 yX5_cut wq_X5_cut) := goodIn_app (goodIn_r _ [17, 18, 19, 20] rfl rfl) (goodIn_ca (goodIn_r _ [30, 31] rfl rfl) gs_wq_X8_make_wsX50)
theorem gs_wq_X8_make_wsX00 : GoodIn wq_X8_make wsX00 := fun w h => ⟨List.mem_cons_of_mem _ (List.mem_append_left _ (List.mem_append_left _ (List.mem_append_right _ h))), (gt_wsX00 w h).2⟩
theorem gs_wq_X8_make_wsJ00 : GoodIn wq_X8_make wsJ00 := fun w h => ⟨List.mem_cons_of_mem _ (List.mem_append_left _ (List.mem_append_right _ h)), (gt_wsJ00 w h).2⟩
theorem gs_wq_X8_make_wsJ40 : GoodIn wq_X8_make wsJ40 := fun w h => ⟨List.mem_cons_of_mem _ (List.mem_append_right _ h), (gt_wsJ40 w h).2⟩
set_option maxRecDepth 20000 in
theorem gq_X8_make_X6_tell_87 : GoodIn wq_X8_make (wsV RX8 87 RX6 yX6_tell wq_X6_tell) := goodIn_app (goodIn_r _ [21, 22, 23, 13] rfl rfl) (goodIn_ca (goodIn_ca (goodIn_ca (goodIn_ca (goodIn_ca (goodIn_ca (goodIn_r _ [32, 33, 29, 27, 34, 35, 36, 37, 13, 38, 39, 40, 41, 42, 43, 20, 44, 45, 46, 47, 9, 48, 49, 50, 51, 52, 53, 54, 55, 56, 57, 58, 59, 60, 61, 62, 63, 64, 65, 66, 67, 68, 69, 70, 71, 72, 73, 74, 75, 76, 77, 78, 79, 80, 81, 25, 82, 83, 84, 85, 86, 87, 88, 89, 31, 90, 91, 92, 93, 94, 95, 96, 97, 98, 99, 100, 101, 102, 103, 104, 105, 106, 107, 108, 109, 110, 111, 112, 113, 114, 115, 116, 117, 118, 119, 120, 121, 122, 123, 124, 125, 126, 127, 128, 129, 130, 131, 132, 133, 134, 135, 136, 137, 138, 139, 140, 141, 142, 143, 144, 145, 146, 147, 148, 149, 150, 151, 152, 153, 154, 155, 156, 157, 158, 159, 160, 161, 162, 163, 164, 165, 166, 167, 168, 169, 170, 171, 172, 173, 174, 175, 176, 177, 178, 179, 180, 181, 182, 183, 184, 185, 186, 187, 188, 189, 190, 191, 192, 193, 194, 195, 196, 197, 198, 199, 200, 201, 202, 203, 204, 205, 206, 207, 208, 209, 210, 211, 212, 213, 214, 215, 216, 217, 218, 219, 220, 221, 222, 223, 224, 225, 226, 227, 228, 229, 230, 231, 232, 233, 234, 235, 236, 237, 238, 239, 240, 241, 242, 243, 244, 245, 246, 247, 248, 249, 250, 251, 252, 253, 254, 255, 256, 257, 258, 259, 260, 261, 262, 263, 264, 265, 266, 267, 268, 269, 270, 271, 272, 273, 274, 275, 276, 277, 278, 279, 280, 281, 282, 283, 284, 285, 286, 287, 288, 289, 290, 291, 292, 293, 294, 295, 296, 297, 298, 299, 300, 301, 302] rfl rfl) gs_wq_X8_make_wsX60) gs_wq_X8_make_wsX10) gs_wq_X8_make_wsX00) gs_wq_X8_make_wsX50) gs_wq_X8_make_wsJ00) gs_wq_X8_make_wsJ40)
set_option maxHeartbeats 4000000 in
set_option maxRecDepth 100000 in
theorem c_X8_make (l : Launch) (dC : Nat → ClassId) (dI : Nat → Nat → Nat) (ka ad : Nat → Nat) (ct : Nat → ClassId) (h0 : Nat) (p0 : Int32) (st st' : CS) (r : Int32) (hf : fX8_make h0 p0 st = some (r, st')) (sz : Nat) : Met l yX8_make wq_X8_make ({ frames := 10, cells := (qn st' - qn st), slots := (qs st' - qs st), locals := 285 }) (va_Pc [.ref (ad h0), .int p0] (PrC (dC, dI) ct ka ad st sz)) (va_Qi (fun r' (_ : Unit) => r' = r) (fun _ => CB (dC, dI) ct ka ad st' (aC ad st sz)) (aC ad st sz)) (qn st' - qn st) (qs st' - qs st) (aC ad st sz) := by
  refine Met.ofW (cc := cX8_make) (maxL := 3) (ret := (some .int)) (by decide) rfl ?_
  intro p e s m args below meth c s₁ B hml hv
  obtain ⟨rfl, hsz, hw0, hK, hN, hZ, hC, hR, hL, hw1, hw2⟩ := hv
  have hx := B.exec
  have hb := B.bytes
  have hr := B.returns
  have hts := atoms_spec (ws := wq_X8_make) B.pre
  have hown : s.vm.findClass RX8 = some m.cls := findClass_of_methodNamed B.named
  have iRX8 : ∀ w ∈ u_ws RX8 TX8 12, w ∈ wq_X8_make := fun w h => List.mem_cons_of_mem _ (List.mem_append_left _ (List.mem_append_left _ (List.mem_append_left _ (List.mem_append_left _ (List.mem_append_left _ (List.mem_append_left _ (List.mem_append_right _ h)))))))
  subst hsz
  have hp : Cp (dC, dI) ka ad ct (aC ad st s.heap.size) s.heap st s.heap [] := ⟨fun i a b => ⟨hw0 i a b, Or.inl ⟨i, a, b, rfl⟩⟩, va_S.rf, hw1, hw2⟩
  generalize hAe : aC ad st s.heap.size = A at hp hZ hC ⊢
  have hA : ∀ q : Nat, s.heap.size ≤ q → A q := fun q h => by rw [← hAe]; exact Or.inr h
  have hl := lv_entry ([.ref (ad h0), .int p0]) (n := 3) (Nat.le_of_ble_eq_true rfl)
  rw [lg_entry_eq]
  generalize (lg_sl ([.ref (ad h0), .int p0]) ++ List.replicate (3 - (lg_sl ([.ref (ad h0), .int p0])).length) Slot.unset).toArray = ls at hl ⊢
  have hl : lv_has ls 3 [(0, .ref (ad h0)), (1, .int p0)] := hl
  have hm : Mo st st := Mo.rf
  refine W.widen (k := qn st - qn st) (n := qs st - qs st) (Nat.zero_le _) (Nat.zero_le _) ?_
  refine W_blkA (fun (u : Int32 × CS) H locs ls => match u with | (s0, gs) => fX8_make_79 h0 s0 gs = some (r, st') ∧ Cp (dC, dI) ka ad ct A s.heap gs H locs ∧ lv_has ls 3 [] ∧ Mo st gs) (fun (u : Int32 × CS) ls => match u with | (s0, gs) => F0 m 79 ls [.int s0]) (fun (u : Int32 × CS) => match u with | (s0, gs) => qn gs - qn st) (fun (u : Int32 × CS) => match u with | (s0, gs) => qs gs - qs st) ?_ (fun J79 => ?_)
  · intro u H locs ls hu
    obtain ⟨s0, gs⟩ := u
    obtain ⟨hf, hp, hl, hm⟩ := hu
    show W p l e _ s m _ below meth c _ _ (qn gs - qn st) (qs gs - qs st) _ (F0 m 79 ls [.int s0])
    unfold fX8_make_79 at hf
    obtain ⟨e1, e2⟩ := pr_some hf
    refine W.widen (k := qn st' - qn st) (n := qs st' - qs st) (by rw [e2]; exact Nat.le_refl _) (by rw [e2]; exact Nat.le_refl _) ?_
    exact W.iret (v := s0) hx hb hr (fun t ht hW => ⟨⟨s0, (), rfl, e1, Cp.end e2 hp ht⟩, hp.2.1.F ht⟩) hp.2.1.2.2 dX8_make_79
  refine W_blkA (fun (u : Int32 × (Option Nat) × Int32 × CS) H locs ls => match u with | (l1, l2, s0, gs) => fX8_make_59 h0 l1 l2 s0 gs = some (r, st') ∧ Cp (dC, dI) ka ad ct A s.heap gs H locs ∧ lv_has ls 3 [(0, .ref (ad h0)), (1, .int l1), (2, va_rf (Option.map ad l2))] ∧ Mo st gs) (fun (u : Int32 × (Option Nat) × Int32 × CS) ls => match u with | (l1, l2, s0, gs) => F0 m 59 ls [.int s0, .ref (ad h0)]) (fun (u : Int32 × (Option Nat) × Int32 × CS) => match u with | (l1, l2, s0, gs) => qn gs - qn st) (fun (u : Int32 × (Option Nat) × Int32 × CS) => match u with | (l1, l2, s0, gs) => qs gs - qs st) ?_ (fun J59 => ?_)
  · intro u H locs ls hu
    obtain ⟨l1, l2, s0, gs⟩ := u
    obtain ⟨hf, hp, hl, hm⟩ := hu
    show W p l e _ s m _ below meth c _ _ (qn gs - qn st) (qs gs - qs st) _ (F0 m 59 ls [.int s0, .ref (ad h0)])
    unfold fX8_make_59 at hf
    obtain ⟨hk_1, hf⟩ := gd_some hf
    refine q_pi (ci := 10) (C := RX8) (T := TX8) (N := 12) (k := 10) (v := s0) (ty := .int) hx hb hts iRX8 tyX8 tyX8_ok nmX8 hown hK hp hk_1 (by decide) rfl rfl (by decide) rfl (Or.inl (hts (.fieldLink RX8 70 "RecordBench" "latestPlace" "I") (by decide +kernel))) (fun _ h9 => h9) rfl (by decide +kernel) rfl rfl dX8_make_59 (fun H locs hp => ?_)
    obtain ⟨st_2, est_2, hf⟩ := nam_some hf
    rw [← est_2] at hp
    have hm := hm.wI est_2
    refine W.widen (k := qn st_2 - qn st) (n := qs st_2 - qs st) (by rw [est_2]; exact Nat.le_refl _) (by rw [est_2]; exact Nat.le_refl _) ?_
    have hk_1 : qk st_2 h0 = 11 := by rw [est_2]; exact hk_1
    refine o_aload_n hx hb dX8_make_62 rfl (lv_at hl 2 rfl) ?_
    refine o_ifnonnull (tgt := 68) hx hb dX8_make_63 (by decide) (fun c_3 => ?_) (fun c_3 => ?_)
    · have hf := pif_f c_3 hf
      refine lv_aload_n hx hb dX8_make_68 rfl (lv_at hl 0 rfl) ?_
      refine q_gp (ci := 10) (C := RX8) (T := TX8) (N := 12) (k := 2) hx hb hts iRX8 hown hK hp hk_1 (by decide) rfl rfl (by decide) rfl (Or.inl (hts (.fieldLink RX8 24 "RecordBench" "makes" "[LRecordBench$Make;") (by decide +kernel))) (fun _ h9 => h9) dX8_make_69 ?_
      refine lv_iload_n hx hb dX8_make_72 rfl (lv_at hl 1 rfl) ?_
      refine o_aload_n hx hb dX8_make_73 rfl (lv_at hl 2 rfl) ?_
      obtain ⟨a_4, ha_5, hf⟩ := ono_some hf
      refine o_at ha_5 ?_
      obtain ⟨hk_6, hf⟩ := gd_some hf
      obtain ⟨a_7, ha_8, hf⟩ := ono_some hf
      refine o_at2 ha_8 ?_
      obtain ⟨hk_9, hf⟩ := gd_some hf
      obtain ⟨g_10, hf⟩ := gd_some hf
      refine q_sq (t0 := 3) (cj := 3) hx hb hK hp hk_9 (by decide) rfl hk_6 (by decide) (by decide) rfl g_10 dX8_make_74 (fun H locs hp => ?_)
      obtain ⟨st_11, est_11, hf⟩ := nam_some hf
      rw [← est_11] at hp
      have hm := hm.wP est_11
      refine W.widen (k := qn st_11 - qn st) (n := qs st_11 - qs st) (by rw [est_11]; exact Nat.le_refl _) (by rw [est_11]; exact Nat.le_refl _) ?_
      have hk_1 : qk st_11 h0 = 11 := by rw [est_11]; exact hk_1
      have hk_6 : qk st_11 a_4 = 4 := by rw [est_11]; exact hk_6
      have hk_9 : qk st_11 a_7 = 24 := by rw [est_11]; exact hk_9
      refine o_aload_n hx hb dX8_make_75 rfl (lv_at hl 2 rfl) ?_
      refine o_at ha_5 ?_
      obtain ⟨r_14, st_12, hc_13, hf⟩ := bnd_some hf
      have hmc := (mo_X1_count a_4 _ _ _ hc_13).mo
      have hmr := mo_X8_make_79 h0 _ _ _ _ hf
      refine q_ci hp hA (va_runV (As := []) (rest := []) ⟨hx, hb, hml, hown, hts⟩ (c_X1_count l dC dI ka ad ct a_4 _ _ _ hc_13 _) (cwV 0 hts gq_X8_make_X1_count_97 rfl rfl rfl (by decide +kernel) ⟨Nat.le_of_ble_eq_true rfl, Nat.le_of_ble_eq_true rfl⟩) ⟨PrC.blind _, q_rv3 hK hp hC hk_6, q_pre hp hK hN hZ hC hR hL hA⟩ rfl rfl hl.1 rfl (lv_room (Nat.le_of_ble_eq_true rfl)) dX8_make_76 ⟨by show qn st_11 - qn st + 0 ≤ qn st' - qn st; have := hmr.1; have := hm.1; have := hmc.1; omega, by show qs st_11 - qs st + 0 ≤ qs st' - qs st; have := hmr.2.1; have := hm.2.1; have := hmc.2.1; omega⟩) (fun H locs hp => ?_)
      have hk_1 : qk st_12 h0 = 11 := by rw [(mo_X1_count a_4 _ _ _ hc_13).2.2.1]; exact hk_1
      have hk_6 : qk st_12 a_4 = 4 := by rw [(mo_X1_count a_4 _ _ _ hc_13).2.2.1]; exact hk_6
      have hk_9 : qk st_12 a_7 = 24 := by rw [(mo_X1_count a_4 _ _ _ hc_13).2.2.1]; exact hk_9
      refine W.widen (k := qn st_12 - qn st) (n := qs st_12 - qs st) (by have := hmc.1; omega) (by have := hmc.2.1; omega) ?_
      have hm := hm.tr hmc
      exact J79 (r_14, st_12) _ _ _ ⟨hf, hp, (lv_sub hl [] rfl), hm⟩
    · have hf := pif_t c_3 hf
      refine lv_iconst (v := (-1)) hx hb dX8_make_66 (by decide) ?_
      obtain ⟨e1, e2⟩ := pr_some hf
      refine W.widen (k := qn st' - qn st) (n := qs st' - qs st) (by rw [e2]; exact Nat.le_refl _) (by rw [e2]; exact Nat.le_refl _) ?_
      exact W.iret (v := (-1)) hx hb hr (fun t ht hW => ⟨⟨(-1), (), rfl, e1, Cp.end e2 hp ht⟩, hp.2.1.F ht⟩) hp.2.1.2.2 dX8_make_67
  refine W_blkA (fun (u : Int32 × (Option Nat) × Int32 × CS) H locs ls => match u with | (l1, l2, s0, gs) => fX8_make_48 h0 l1 l2 s0 gs = some (r, st') ∧ Cp (dC, dI) ka ad ct A s.heap gs H locs ∧ lv_has ls 3 [(0, .ref (ad h0)), (1, .int l1), (2, va_rf (Option.map ad l2))] ∧ Mo st gs) (fun (u : Int32 × (Option Nat) × Int32 × CS) ls => match u with | (l1, l2, s0, gs) => F0 m 48 ls [.int s0, .ref (ad h0)]) (fun (u : Int32 × (Option Nat) × Int32 × CS) => match u with | (l1, l2, s0, gs) => qn gs - qn st) (fun (u : Int32 × (Option Nat) × Int32 × CS) => match u with | (l1, l2, s0, gs) => qs gs - qs st) ?_ (fun J48 => ?_)
  · intro u H locs ls hu
    obtain ⟨l1, l2, s0, gs⟩ := u
    obtain ⟨hf, hp, hl, hm⟩ := hu
    show W p l e _ s m _ below meth c _ _ (qn gs - qn st) (qs gs - qs st) _ (F0 m 48 ls [.int s0, .ref (ad h0)])
    unfold fX8_make_48 at hf
    obtain ⟨hk_15, hf⟩ := gd_some hf
    refine q_pi (ci := 10) (C := RX8) (T := TX8) (N := 12) (k := 9) (v := s0) (ty := .int) hx hb hts iRX8 tyX8 tyX8_ok nmX8 hown hK hp hk_15 (by decide) rfl rfl (by decide) rfl (Or.inl (hts (.fieldLink RX8 66 "RecordBench" "latestFault" "I") (by decide +kernel))) (fun _ h9 => h9) rfl (by decide +kernel) rfl rfl dX8_make_48 (fun H locs hp => ?_)
    obtain ⟨st_16, est_16, hf⟩ := nam_some hf
    rw [← est_16] at hp
    have hm := hm.wI est_16
    refine W.widen (k := qn st_16 - qn st) (n := qs st_16 - qs st) (by rw [est_16]; exact Nat.le_refl _) (by rw [est_16]; exact Nat.le_refl _) ?_
    have hk_15 : qk st_16 h0 = 11 := by rw [est_16]; exact hk_15
    refine lv_aload_n hx hb dX8_make_51 rfl (lv_at hl 0 rfl) ?_
    refine lv_aload_n hx hb dX8_make_52 rfl (lv_at hl 0 rfl) ?_
    refine q_gp (ci := 10) (C := RX8) (T := TX8) (N := 12) (k := 3) hx hb hts iRX8 hown hK hp hk_15 (by decide) rfl rfl (by decide) rfl (Or.inl (hts (.fieldLink RX8 33 "RecordBench" "texts" "LRecordBench$TextReader;") (by decide +kernel))) (fun _ h9 => h9) dX8_make_53 ?_
    obtain ⟨a_17, ha_18, hf⟩ := ono_some hf
    refine o_at ha_18 ?_
    obtain ⟨hk_19, hf⟩ := gd_some hf
    obtain ⟨r_22, st_20, hc_21, hf⟩ := bnd_some hf
    have hmc := (mo_X6_placeFound a_17 _ _ _ hc_21).mo
    have hmr := mo_X8_make_59 h0 _ _ _ _ _ _ hf
    refine q_ci hp hA (va_runV (As := []) (rest := [.ref (ad h0)]) ⟨hx, hb, hml, hown, hts⟩ (c_X6_placeFound l dC dI ka ad ct a_17 _ _ _ hc_21 _) (cwV 0 hts gq_X8_make_X6_placeFound_94 rfl rfl rfl (by decide +kernel) ⟨Nat.le_of_ble_eq_true rfl, Nat.le_of_ble_eq_true rfl⟩) ⟨PrC.blind _, q_rv8 hK hp hC hk_19, q_pre hp hK hN hZ hC hR hL hA⟩ rfl rfl hl.1 rfl (lv_room (Nat.le_of_ble_eq_true rfl)) dX8_make_56 ⟨by show qn st_16 - qn st + 0 ≤ qn st' - qn st; have := hmr.1; have := hm.1; have := hmc.1; omega, by show qs st_16 - qs st + 0 ≤ qs st' - qs st; have := hmr.2.1; have := hm.2.1; have := hmc.2.1; omega⟩) (fun H locs hp => ?_)
    have hk_15 : qk st_20 h0 = 11 := by rw [(mo_X6_placeFound a_17 _ _ _ hc_21).2.2.1]; exact hk_15
    have hk_19 : qk st_20 a_17 = 9 := by rw [(mo_X6_placeFound a_17 _ _ _ hc_21).2.2.1]; exact hk_19
    refine W.widen (k := qn st_20 - qn st) (n := qs st_20 - qs st) (by have := hmc.1; omega) (by have := hmc.2.1; omega) ?_
    have hm := hm.tr hmc
    exact J59 (l1, l2, r_22, st_20) _ _ _ ⟨hf, hp, (lv_sub hl [0, 1, 2] rfl), hm⟩
  refine W_blkA (fun (u : Int32 × (Option Nat) × Int32 × CS) H locs ls => match u with | (l1, l2, s0, gs) => fX8_make_39 h0 l1 l2 s0 gs = some (r, st') ∧ Cp (dC, dI) ka ad ct A s.heap gs H locs ∧ lv_has ls 3 [(0, .ref (ad h0)), (1, .int l1), (2, va_rf (Option.map ad l2))] ∧ Mo st gs) (fun (u : Int32 × (Option Nat) × Int32 × CS) ls => match u with | (l1, l2, s0, gs) => F0 m 39 ls [.int s0]) (fun (u : Int32 × (Option Nat) × Int32 × CS) => match u with | (l1, l2, s0, gs) => qn gs - qn st) (fun (u : Int32 × (Option Nat) × Int32 × CS) => match u with | (l1, l2, s0, gs) => qs gs - qs st) ?_ (fun J39 => ?_)
  · intro u H locs ls hu
    obtain ⟨l1, l2, s0, gs⟩ := u
    obtain ⟨hf, hp, hl, hm⟩ := hu
    show W p l e _ s m _ below meth c _ _ (qn gs - qn st) (qs gs - qs st) _ (F0 m 39 ls [.int s0])
    unfold fX8_make_39 at hf
    refine lv_pop hx hb dX8_make_39 rfl ?_
    refine lv_aload_n hx hb dX8_make_40 rfl (lv_at hl 0 rfl) ?_
    refine lv_aload_n hx hb dX8_make_41 rfl (lv_at hl 0 rfl) ?_
    obtain ⟨hk_23, hf⟩ := gd_some hf
    refine q_gp (ci := 10) (C := RX8) (T := TX8) (N := 12) (k := 3) hx hb hts iRX8 hown hK hp hk_23 (by decide) rfl rfl (by decide) rfl (Or.inl (hts (.fieldLink RX8 33 "RecordBench" "texts" "LRecordBench$TextReader;") (by decide +kernel))) (fun _ h9 => h9) dX8_make_42 ?_
    obtain ⟨a_24, ha_25, hf⟩ := ono_some hf
    refine o_at ha_25 ?_
    obtain ⟨hk_26, hf⟩ := gd_some hf
    obtain ⟨r_29, st_27, hc_28, hf⟩ := bnd_some hf
    have hmc := (mo_X6_faultFound a_24 _ _ _ hc_28).mo
    have hmr := mo_X8_make_48 h0 _ _ _ _ _ _ hf
    refine q_ci hp hA (va_runV (As := []) (rest := [.ref (ad h0)]) ⟨hx, hb, hml, hown, hts⟩ (c_X6_faultFound l dC dI ka ad ct a_24 _ _ _ hc_28 _) (cwV 0 hts gq_X8_make_X6_faultFound_91 rfl rfl rfl (by decide +kernel) ⟨Nat.le_of_ble_eq_true rfl, Nat.le_of_ble_eq_true rfl⟩) ⟨PrC.blind _, q_rv8 hK hp hC hk_26, q_pre hp hK hN hZ hC hR hL hA⟩ rfl rfl hl.1 rfl (lv_room (Nat.le_of_ble_eq_true rfl)) dX8_make_45 ⟨by show qn gs - qn st + 0 ≤ qn st' - qn st; have := hmr.1; have := hm.1; have := hmc.1; omega, by show qs gs - qs st + 0 ≤ qs st' - qs st; have := hmr.2.1; have := hm.2.1; have := hmc.2.1; omega⟩) (fun H locs hp => ?_)
    have hk_23 : qk st_27 h0 = 11 := by rw [(mo_X6_faultFound a_24 _ _ _ hc_28).2.2.1]; exact hk_23
    have hk_26 : qk st_27 a_24 = 9 := by rw [(mo_X6_faultFound a_24 _ _ _ hc_28).2.2.1]; exact hk_26
    refine W.widen (k := qn st_27 - qn st) (n := qs st_27 - qs st) (by have := hmc.1; omega) (by have := hmc.2.1; omega) ?_
    have hm := hm.tr hmc
    exact J48 (l1, l2, r_29, st_27) _ _ _ ⟨hf, hp, (lv_sub hl [0, 1, 2] rfl), hm⟩
  refine W_blkA (fun (u : Int32 × (Option Nat) × CS) H locs ls => match u with | (l1, s0, gs) => fX8_make_30 h0 l1 s0 gs = some (r, st') ∧ Cp (dC, dI) ka ad ct A s.heap gs H locs ∧ lv_has ls 3 [(0, .ref (ad h0)), (1, .int l1)] ∧ Mo st gs) (fun (u : Int32 × (Option Nat) × CS) ls => match u with | (l1, s0, gs) => F0 m 30 ls [va_rf (Option.map ad s0)]) (fun (u : Int32 × (Option Nat) × CS) => match u with | (l1, s0, gs) => qn gs - qn st) (fun (u : Int32 × (Option Nat) × CS) => match u with | (l1, s0, gs) => qs gs - qs st) ?_ (fun J30 => ?_)
  · intro u H locs ls hu
    obtain ⟨l1, s0, gs⟩ := u
    obtain ⟨hf, hp, hl, hm⟩ := hu
    show W p l e _ s m _ below meth c _ _ (qn gs - qn st) (qs gs - qs st) _ (F0 m 30 ls [va_rf (Option.map ad s0)])
    unfold fX8_make_30 at hf
    refine o_astore_n (i := 2) (lv' := [(2, va_rf (Option.map ad s0)), (0, .ref (ad h0)), (1, .int l1)]) hx hb dX8_make_30 rfl hl (by decide) rfl (fun ls hl => ?_)
    refine lv_aload_n hx hb dX8_make_31 rfl (lv_at hl 1 rfl) ?_
    obtain ⟨hk_30, hf⟩ := gd_some hf
    refine q_gp (ci := 10) (C := RX8) (T := TX8) (N := 12) (k := 0) hx hb hts iRX8 hown hK hp hk_30 (by decide) rfl rfl (by decide) rfl (Or.inl (hts (.fieldLink RX8 14 "RecordBench" "tape" "LRecordBench$Row;") (by decide +kernel))) (fun _ h9 => h9) dX8_make_32 ?_
    refine lv_iconst (v := 0) hx hb dX8_make_35 (by decide) ?_
    obtain ⟨a_31, ha_32, hf⟩ := ono_some hf
    refine o_at1 ha_32 ?_
    obtain ⟨hk_33, hf⟩ := gd_some hf
    obtain ⟨r_36, st_34, hc_35, hf⟩ := bnd_some hf
    have hmc := (mo_X5_cut a_31 0 _ _ _ hc_35).mo
    have hmr := mo_X8_make_39 h0 _ _ _ _ _ _ hf
    refine q_ci hp hA (va_runV (As := [.int 0]) (rest := []) ⟨hx, hb, hml, hown, hts⟩ (c_X5_cut l dC dI ka ad ct a_31 0 _ _ _ hc_35 _) (cwV 1 hts gq_X8_make_X5_cut_83 rfl rfl rfl (by decide +kernel) ⟨Nat.le_of_ble_eq_true rfl, Nat.le_of_ble_eq_true rfl⟩) ⟨PrC.blind _, q_rv7 hK hp hC hk_33, q_pre hp hK hN hZ hC hR hL hA⟩ rfl rfl hl.1 rfl (lv_room (Nat.le_of_ble_eq_true rfl)) dX8_make_36 ⟨by show qn gs - qn st + 0 ≤ qn st' - qn st; have := hmr.1; have := hm.1; have := hmc.1; omega, by show qs gs - qs st + 0 ≤ qs st' - qs st; have := hmr.2.1; have := hm.2.1; have := hmc.2.1; omega⟩) (fun H locs hp => ?_)
    have hk_30 : qk st_34 h0 = 11 := by rw [(mo_X5_cut a_31 0 _ _ _ hc_35).2.2.1]; exact hk_30
    have hk_33 : qk st_34 a_31 = 8 := by rw [(mo_X5_cut a_31 0 _ _ _ hc_35).2.2.1]; exact hk_33
    refine W.widen (k := qn st_34 - qn st) (n := qs st_34 - qs st) (by have := hmc.1; omega) (by have := hmc.2.1; omega) ?_
    have hm := hm.tr hmc
    exact J39 (l1, s0, r_36, st_34) _ _ _ ⟨hf, hp, (lv_sub hl [1, 2, 0] rfl), hm⟩
  unfold fX8_make at hf
  refine lv_iload_n hx hb dX8_make_0 rfl (lv_at hl 1 rfl) ?_
  refine lv_if_lt (tgt := 19) hx hb dX8_make_1 (by decide) (fun c_37 => ?_) (fun c_37 => ?_)
  · have hf := pif_t c_37 hf
    refine lv_bipush (v := (-2)) hx hb dX8_make_19 (by decide) ?_
    obtain ⟨e1, e2⟩ := pr_some hf
    refine W.widen (k := qn st' - qn st) (n := qs st' - qs st) (by rw [e2]; exact Nat.le_refl _) (by rw [e2]; exact Nat.le_refl _) ?_
    exact W.iret (v := (-2)) hx hb hr (fun t ht hW => ⟨⟨(-2), (), rfl, e1, Cp.end e2 hp ht⟩, hp.2.1.F ht⟩) hp.2.1.2.2 dX8_make_21
  · have hf := pif_f c_37 hf
    refine lv_iload_n hx hb dX8_make_4 rfl (lv_at hl 1 rfl) ?_
    refine lv_bipush (v := 8) hx hb dX8_make_5 (by decide) ?_
    refine lv_icmp_ge (tgt := 19) hx hb dX8_make_7 (by decide) (fun c_38 => ?_) (fun c_38 => ?_)
    · have hf := pif_t c_38 hf
      refine lv_bipush (v := (-2)) hx hb dX8_make_19 (by decide) ?_
      obtain ⟨e1, e2⟩ := pr_some hf
      refine W.widen (k := qn st' - qn st) (n := qs st' - qs st) (by rw [e2]; exact Nat.le_refl _) (by rw [e2]; exact Nat.le_refl _) ?_
      exact W.iret (v := (-2)) hx hb hr (fun t ht hW => ⟨⟨(-2), (), rfl, e1, Cp.end e2 hp ht⟩, hp.2.1.F ht⟩) hp.2.1.2.2 dX8_make_21
    · have hf := pif_f c_38 hf
      refine lv_aload_n hx hb dX8_make_10 rfl (lv_at hl 0 rfl) ?_
      obtain ⟨hk_39, hf⟩ := gd_some hf
      refine q_gp (ci := 10) (C := RX8) (T := TX8) (N := 12) (k := 2) hx hb hts iRX8 hown hK hp hk_39 (by decide) rfl rfl (by decide) rfl (Or.inl (hts (.fieldLink RX8 24 "RecordBench" "makes" "[LRecordBench$Make;") (by decide +kernel))) (fun _ h9 => h9) dX8_make_11 ?_
      refine lv_iload_n hx hb dX8_make_14 rfl (lv_at hl 1 rfl) ?_
      obtain ⟨a_40, ha_41, hf⟩ := ono_some hf
      refine o_at1 ha_41 ?_
      obtain ⟨hk_42, hf⟩ := gd_some hf
      obtain ⟨g_43, hf⟩ := gd_some hf
      refine q_aq (t0 := 3) hx hb hK hp hk_42 (by decide) rfl g_43 dX8_make_15 ?_
      refine o_ifnull (tgt := 22) hx hb dX8_make_16 (by decide) (fun c_44 => ?_) (fun c_44 => ?_)
      · have hf := pif_t c_44 hf
        refine lv_aload_n hx hb dX8_make_22 rfl (lv_at hl 0 rfl) ?_
        refine q_gp (ci := 10) (C := RX8) (T := TX8) (N := 12) (k := 3) hx hb hts iRX8 hown hK hp hk_39 (by decide) rfl rfl (by decide) rfl (Or.inl (hts (.fieldLink RX8 33 "RecordBench" "texts" "LRecordBench$TextReader;") (by decide +kernel))) (fun _ h9 => h9) dX8_make_23 ?_
        refine lv_iload_n hx hb dX8_make_26 rfl (lv_at hl 1 rfl) ?_
        obtain ⟨a_45, ha_46, hf⟩ := ono_some hf
        refine o_at1 ha_46 ?_
        obtain ⟨hk_47, hf⟩ := gd_some hf
        obtain ⟨r_50, st_48, hc_49, hf⟩ := bnd_some hf
        have lthk_39 := hp.2.2.1.lt (i := h0) (by rw [hk_39]; decide)
        have lthk_42 := hp.2.2.1.lt (i := a_40) (by rw [hk_42]; decide)
        have lthk_47 := hp.2.2.1.lt (i := a_45) (by rw [hk_47]; decide)
        have hmc := (mo_X6_tell a_45 p0 _ _ _ hc_49)
        have hmr := mo_X8_make_30 h0 _ _ _ _ _ hf
        refine q_cq hp hA (va_runV (As := [.int p0]) (rest := []) ⟨hx, hb, hml, hown, hts⟩ (c_X6_tell l dC dI ka ad ct a_45 p0 _ _ _ hc_49 _) (cwV 1 hts gq_X8_make_X6_tell_87 rfl rfl rfl (by decide +kernel) ⟨Nat.le_of_ble_eq_true rfl, Nat.le_of_ble_eq_true rfl⟩) ⟨PrC.blind _, q_rv8 hK hp hC hk_47, q_pre hp hK hN hZ hC hR hL hA⟩ rfl rfl hl.1 rfl (lv_room (Nat.le_of_ble_eq_true rfl)) dX8_make_27 ⟨by show qn st - qn st + (qn st_48 - qn st) ≤ qn st' - qn st; have := hmr.1; have := hm.1; have := hmc.1; omega, by show qs st - qs st + (qs st_48 - qs st) ≤ qs st' - qs st; have := hmr.2.1; have := hm.2.1; have := hmc.2.1; omega⟩) (fun H locs hp => ?_)
        have hk_39 : qk st_48 h0 = 11 := ((mo_X6_tell a_45 p0 _ _ _ hc_49).2.2 _ lthk_39).1.trans hk_39
        have hk_42 : qk st_48 a_40 = 24 := ((mo_X6_tell a_45 p0 _ _ _ hc_49).2.2 _ lthk_42).1.trans hk_42
        have hk_47 : qk st_48 a_45 = 9 := ((mo_X6_tell a_45 p0 _ _ _ hc_49).2.2 _ lthk_47).1.trans hk_47
        refine W.widen (k := qn st_48 - qn st) (n := qs st_48 - qs st) (by have := hm.1; have := hmc.1; omega) (by have := hm.2.1; have := hmc.2.1; omega) ?_
        have hm := hm.tr hmc
        exact J30 (p0, r_50, st_48) _ _ _ ⟨hf, hp, (lv_sub hl [0, 1] rfl), hm⟩
      · have hf := pif_f c_44 hf
        refine lv_bipush (v := (-2)) hx hb dX8_make_19 (by decide) ?_
        obtain ⟨e1, e2⟩ := pr_some hf
        refine W.widen (k := qn st' - qn st) (n := qs st' - qs st) (by rw [e2]; exact Nat.le_refl _) (by rw [e2]; exact Nat.le_refl _) ?_
        exact W.iret (v := (-2)) hx hb hr (fun t ht hW => ⟨⟨(-2), (), rfl, e1, Cp.end e2 hp ht⟩, hp.2.1.F ht⟩) hp.2.1.2.2 dX8_make_21
