theorem d_X_init_0 : decode b_X_init 0 = .ok (.aload_n 0, 1) := by decide +kernel
theorem d_X_init_1 : decode b_X_init 1 = .ok (.invokespecial 3, 3) := by decide +kernel
theorem d_X_init_4 : decode b_X_init 4 = .ok (.aload_n 0, 1) := by decide +kernel
theorem d_X_init_5 : decode b_X_init 5 = .ok (.iconst 0, 1) := by decide +kernel
theorem d_X_init_6 : decode b_X_init 6 = .ok (.putfield 9, 3) := by decide +kernel
theorem d_X_init_9 : decode b_X_init 9 = .ok (.aload_n 0, 1) := by decide +kernel
theorem d_X_init_10 : decode b_X_init 10 = .ok (.iconst 0, 1) := by decide +kernel
theorem d_X_init_11 : decode b_X_init 11 = .ok (.putfield 13, 3) := by decide +kernel
theorem d_X_init_14 : decode b_X_init 14 = .ok (.aload_n 0, 1) := by decide +kernel
theorem d_X_init_15 : decode b_X_init 15 = .ok (.sipush 192, 3) := by decide +kernel
theorem d_X_init_18 : decode b_X_init 18 = .ok (.newarray .int, 2) := by decide +kernel
theorem d_X_init_20 : decode b_X_init 20 = .ok (.putfield 16, 3) := by decide +kernel
theorem d_X_init_23 : decode b_X_init 23 = .ok (.aload_n 0, 1) := by decide +kernel
theorem d_X_init_24 : decode b_X_init 24 = .ok (.sipush 192, 3) := by decide +kernel
theorem d_X_init_27 : decode b_X_init 27 = .ok (.newarray .int, 2) := by decide +kernel
theorem d_X_init_29 : decode b_X_init 29 = .ok (.putfield 20, 3) := by decide +kernel
theorem d_X_init_32 : decode b_X_init 32 = .ok (.aload_n 0, 1) := by decide +kernel
theorem d_X_init_33 : decode b_X_init 33 = .ok (.sipush 1152, 3) := by decide +kernel
theorem d_X_init_36 : decode b_X_init 36 = .ok (.newarray .int, 2) := by decide +kernel
theorem d_X_init_38 : decode b_X_init 38 = .ok (.putfield 23, 3) := by decide +kernel
theorem d_X_init_41 : decode b_X_init 41 = .ok (.aload_n 0, 1) := by decide +kernel
theorem d_X_init_42 : decode b_X_init 42 = .ok (.sipush 1152, 3) := by decide +kernel
theorem d_X_init_45 : decode b_X_init 45 = .ok (.newarray .int, 2) := by decide +kernel
theorem d_X_init_47 : decode b_X_init 47 = .ok (.putfield 26, 3) := by decide +kernel
theorem d_X_init_50 : decode b_X_init 50 = .ok (.aload_n 0, 1) := by decide +kernel
theorem d_X_init_51 : decode b_X_init 51 = .ok (.sipush 192, 3) := by decide +kernel
theorem d_X_init_54 : decode b_X_init 54 = .ok (.newarray .int, 2) := by decide +kernel
theorem d_X_init_56 : decode b_X_init 56 = .ok (.putfield 29, 3) := by decide +kernel
theorem d_X_init_59 : decode b_X_init 59 = .ok (.aload_n 0, 1) := by decide +kernel
theorem d_X_init_60 : decode b_X_init 60 = .ok (.iconst 0, 1) := by decide +kernel
theorem d_X_init_61 : decode b_X_init 61 = .ok (.putfield 32, 3) := by decide +kernel
theorem d_X_init_64 : decode b_X_init 64 = .ok (.aload_n 0, 1) := by decide +kernel
theorem d_X_init_65 : decode b_X_init 65 = .ok (.bipush 6, 2) := by decide +kernel
theorem d_X_init_67 : decode b_X_init 67 = .ok (.newarray .int, 2) := by decide +kernel
theorem d_X_init_69 : decode b_X_init 69 = .ok (.putfield 35, 3) := by decide +kernel
theorem d_X_init_72 : decode b_X_init 72 = .ok (.aload_n 0, 1) := by decide +kernel
theorem d_X_init_73 : decode b_X_init 73 = .ok (.iconst 0, 1) := by decide +kernel
theorem d_X_init_74 : decode b_X_init 74 = .ok (.putfield 38, 3) := by decide +kernel
theorem d_X_init_77 : decode b_X_init 77 = .ok (.aload_n 0, 1) := by decide +kernel
theorem d_X_init_78 : decode b_X_init 78 = .ok (.bipush 24, 2) := by decide +kernel
theorem d_X_init_80 : decode b_X_init 80 = .ok (.newarray .int, 2) := by decide +kernel
theorem d_X_init_82 : decode b_X_init 82 = .ok (.putfield 41, 3) := by decide +kernel
theorem d_X_init_85 : decode b_X_init 85 = .ok (.aload_n 0, 1) := by decide +kernel
theorem d_X_init_86 : decode b_X_init 86 = .ok (.iconst 0, 1) := by decide +kernel
theorem d_X_init_87 : decode b_X_init 87 = .ok (.putfield 44, 3) := by decide +kernel
theorem d_X_init_90 : decode b_X_init 90 = .ok (.aload_n 0, 1) := by decide +kernel
theorem d_X_init_91 : decode b_X_init 91 = .ok (.new 47, 3) := by decide +kernel
theorem d_X_init_94 : decode b_X_init 94 = .ok (.dup, 1) := by decide +kernel
theorem d_X_init_95 : decode b_X_init 95 = .ok (.invokespecial 49, 3) := by decide +kernel
theorem d_X_init_98 : decode b_X_init 98 = .ok (.putfield 50, 3) := by decide +kernel
theorem d_X_init_101 : decode b_X_init 101 = .ok (.aload_n 0, 1) := by decide +kernel
theorem d_X_init_102 : decode b_X_init 102 = .ok (.new 54, 3) := by decide +kernel
theorem d_X_init_105 : decode b_X_init 105 = .ok (.dup, 1) := by decide +kernel
theorem d_X_init_106 : decode b_X_init 106 = .ok (.invokespecial 56, 3) := by decide +kernel
theorem d_X_init_109 : decode b_X_init 109 = .ok (.putfield 57, 3) := by decide +kernel
theorem d_X_init_112 : decode b_X_init 112 = .ok (.return_, 1) := by decide +kernel
theorem d_X_coder_0 : decode b_X_coder 0 = .ok (.aload_n 0, 1) := by decide +kernel
theorem d_X_coder_1 : decode b_X_coder 1 = .ok (.getfield 9, 3) := by decide +kernel
theorem d_X_coder_4 : decode b_X_coder 4 = .ok (.bipush 8, 2) := by decide +kernel
theorem d_X_coder_6 : decode b_X_coder 6 = .ok (.if_icmp .lt 13, 3) := by decide +kernel
theorem d_X_coder_9 : decode b_X_coder 9 = .ok (.new 61, 3) := by decide +kernel
theorem d_X_coder_12 : decode b_X_coder 12 = .ok (.dup, 1) := by decide +kernel
theorem d_X_coder_13 : decode b_X_coder 13 = .ok (.ldc 63, 2) := by decide +kernel
theorem d_X_coder_15 : decode b_X_coder 15 = .ok (.invokespecial 65, 3) := by decide +kernel
theorem d_X_coder_18 : decode b_X_coder 18 = .ok (.athrow, 1) := by decide +kernel
theorem d_X_coder_19 : decode b_X_coder 19 = .ok (.aload_n 0, 1) := by decide +kernel
theorem d_X_coder_20 : decode b_X_coder 20 = .ok (.dup, 1) := by decide +kernel
theorem d_X_coder_21 : decode b_X_coder 21 = .ok (.getfield 9, 3) := by decide +kernel
theorem d_X_coder_24 : decode b_X_coder 24 = .ok (.iconst 1, 1) := by decide +kernel
theorem d_X_coder_25 : decode b_X_coder 25 = .ok (.iadd, 1) := by decide +kernel
theorem d_X_coder_26 : decode b_X_coder 26 = .ok (.putfield 9, 3) := by decide +kernel
theorem d_X_coder_29 : decode b_X_coder 29 = .ok (.aload_n 0, 1) := by decide +kernel
theorem d_X_coder_30 : decode b_X_coder 30 = .ok (.getfield 9, 3) := by decide +kernel
theorem d_X_coder_33 : decode b_X_coder 33 = .ok (.iconst 1, 1) := by decide +kernel
theorem d_X_coder_34 : decode b_X_coder 34 = .ok (.isub, 1) := by decide +kernel
theorem d_X_coder_35 : decode b_X_coder 35 = .ok (.ireturn, 1) := by decide +kernel
theorem d_X_picture_0 : decode b_X_picture 0 = .ok (.aload_n 0, 1) := by decide +kernel
theorem d_X_picture_1 : decode b_X_picture 1 = .ok (.getfield 13, 3) := by decide +kernel
theorem d_X_picture_4 : decode b_X_picture 4 = .ok (.bipush 24, 2) := by decide +kernel
theorem d_X_picture_6 : decode b_X_picture 6 = .ok (.if_icmp .lt 13, 3) := by decide +kernel
theorem d_X_picture_9 : decode b_X_picture 9 = .ok (.new 61, 3) := by decide +kernel
theorem d_X_picture_12 : decode b_X_picture 12 = .ok (.dup, 1) := by decide +kernel
theorem d_X_picture_13 : decode b_X_picture 13 = .ok (.ldc 68, 2) := by decide +kernel
theorem d_X_picture_15 : decode b_X_picture 15 = .ok (.invokespecial 65, 3) := by decide +kernel
theorem d_X_picture_18 : decode b_X_picture 18 = .ok (.athrow, 1) := by decide +kernel
theorem d_X_picture_19 : decode b_X_picture 19 = .ok (.aload_n 0, 1) := by decide +kernel
theorem d_X_picture_20 : decode b_X_picture 20 = .ok (.dup, 1) := by decide +kernel
theorem d_X_picture_21 : decode b_X_picture 21 = .ok (.getfield 13, 3) := by decide +kernel
theorem d_X_picture_24 : decode b_X_picture 24 = .ok (.iconst 1, 1) := by decide +kernel
theorem d_X_picture_25 : decode b_X_picture 25 = .ok (.iadd, 1) := by decide +kernel
theorem d_X_picture_26 : decode b_X_picture 26 = .ok (.putfield 13, 3) := by decide +kernel
theorem d_X_picture_29 : decode b_X_picture 29 = .ok (.aload_n 0, 1) := by decide +kernel
theorem d_X_picture_30 : decode b_X_picture 30 = .ok (.getfield 13, 3) := by decide +kernel
theorem d_X_picture_33 : decode b_X_picture 33 = .ok (.iconst 1, 1) := by decide +kernel
theorem d_X_picture_34 : decode b_X_picture 34 = .ok (.isub, 1) := by decide +kernel
theorem d_X_picture_35 : decode b_X_picture 35 = .ok (.ireturn, 1) := by decide +kernel
theorem d_X_point_0 : decode b_X_point 0 = .ok (.aload_n 0, 1) := by decide +kernel
theorem d_X_point_1 : decode b_X_point 1 = .ok (.iload_n 1, 1) := by decide +kernel
theorem d_X_point_2 : decode b_X_point 2 = .ok (.iload_n 2, 1) := by decide +kernel
theorem d_X_point_3 : decode b_X_point 3 = .ok (.invokevirtual 70, 3) := by decide +kernel
theorem d_X_point_6 : decode b_X_point 6 = .ok (.istore 5, 2) := by decide +kernel
theorem d_X_point_8 : decode b_X_point 8 = .ok (.iload_n 3, 1) := by decide +kernel
theorem d_X_point_9 : decode b_X_point 9 = .ok (.iconst 1, 1) := by decide +kernel
theorem d_X_point_10 : decode b_X_point 10 = .ok (.if_icmp .lt 9, 3) := by decide +kernel
theorem d_X_point_13 : decode b_X_point 13 = .ok (.iload_n 3, 1) := by decide +kernel
theorem d_X_point_14 : decode b_X_point 14 = .ok (.ldc 74, 2) := by decide +kernel
theorem d_X_point_16 : decode b_X_point 16 = .ok (.if_icmp .le 13, 3) := by decide +kernel
theorem d_X_point_19 : decode b_X_point 19 = .ok (.new 75, 3) := by decide +kernel
theorem d_X_point_22 : decode b_X_point 22 = .ok (.dup, 1) := by decide +kernel
theorem d_X_point_23 : decode b_X_point 23 = .ok (.ldc 77, 2) := by decide +kernel
theorem d_X_point_25 : decode b_X_point 25 = .ok (.invokespecial 79, 3) := by decide +kernel
theorem d_X_point_28 : decode b_X_point 28 = .ok (.athrow, 1) := by decide +kernel
theorem d_X_point_29 : decode b_X_point 29 = .ok (.iload 4, 2) := by decide +kernel
theorem d_X_point_31 : decode b_X_point 31 = .ok (.ifCond .lt 10, 3) := by decide +kernel
theorem d_X_point_34 : decode b_X_point 34 = .ok (.iload 4, 2) := by decide +kernel
theorem d_X_point_36 : decode b_X_point 36 = .ok (.ldc 74, 2) := by decide +kernel
theorem d_X_point_38 : decode b_X_point 38 = .ok (.if_icmp .le 13, 3) := by decide +kernel
theorem d_X_point_41 : decode b_X_point 41 = .ok (.new 75, 3) := by decide +kernel
theorem d_X_point_44 : decode b_X_point 44 = .ok (.dup, 1) := by decide +kernel
theorem d_X_point_45 : decode b_X_point 45 = .ok (.ldc 80, 2) := by decide +kernel
theorem d_X_point_47 : decode b_X_point 47 = .ok (.invokespecial 79, 3) := by decide +kernel
theorem d_X_point_50 : decode b_X_point 50 = .ok (.athrow, 1) := by decide +kernel
theorem d_X_point_51 : decode b_X_point 51 = .ok (.aload_n 0, 1) := by decide +kernel
theorem d_X_point_52 : decode b_X_point 52 = .ok (.getfield 16, 3) := by decide +kernel
theorem d_X_point_55 : decode b_X_point 55 = .ok (.iload 5, 2) := by decide +kernel
theorem d_X_point_57 : decode b_X_point 57 = .ok (.iaload, 1) := by decide +kernel
theorem d_X_point_58 : decode b_X_point 58 = .ok (.iconst (-1), 1) := by decide +kernel
theorem d_X_point_59 : decode b_X_point 59 = .ok (.if_icmp .ne 13, 3) := by decide +kernel
theorem d_X_point_62 : decode b_X_point 62 = .ok (.new 82, 3) := by decide +kernel
theorem d_X_point_65 : decode b_X_point 65 = .ok (.dup, 1) := by decide +kernel
theorem d_X_point_66 : decode b_X_point 66 = .ok (.ldc 84, 2) := by decide +kernel
theorem d_X_point_68 : decode b_X_point 68 = .ok (.invokespecial 86, 3) := by decide +kernel
theorem d_X_point_71 : decode b_X_point 71 = .ok (.athrow, 1) := by decide +kernel
theorem d_X_point_72 : decode b_X_point 72 = .ok (.aload_n 0, 1) := by decide +kernel
theorem d_X_point_73 : decode b_X_point 73 = .ok (.getfield 16, 3) := by decide +kernel
theorem d_X_point_76 : decode b_X_point 76 = .ok (.iload 5, 2) := by decide +kernel
theorem d_X_point_78 : decode b_X_point 78 = .ok (.iaload, 1) := by decide +kernel
theorem d_X_point_79 : decode b_X_point 79 = .ok (.bipush 6, 2) := by decide +kernel
theorem d_X_point_81 : decode b_X_point 81 = .ok (.if_icmp .lt 13, 3) := by decide +kernel
theorem d_X_point_84 : decode b_X_point 84 = .ok (.new 61, 3) := by decide +kernel
theorem d_X_point_87 : decode b_X_point 87 = .ok (.dup, 1) := by decide +kernel
theorem d_X_point_88 : decode b_X_point 88 = .ok (.ldc 87, 2) := by decide +kernel
theorem d_X_point_90 : decode b_X_point 90 = .ok (.invokespecial 65, 3) := by decide +kernel
theorem d_X_point_93 : decode b_X_point 93 = .ok (.athrow, 1) := by decide +kernel
theorem d_X_point_94 : decode b_X_point 94 = .ok (.aload_n 0, 1) := by decide +kernel
theorem d_X_point_95 : decode b_X_point 95 = .ok (.iload 5, 2) := by decide +kernel
theorem d_X_point_97 : decode b_X_point 97 = .ok (.iload_n 3, 1) := by decide +kernel
theorem d_X_point_98 : decode b_X_point 98 = .ok (.iload 4, 2) := by decide +kernel
theorem d_X_point_100 : decode b_X_point 100 = .ok (.invokevirtual 89, 3) := by decide +kernel
theorem d_X_point_103 : decode b_X_point 103 = .ok (.aload_n 0, 1) := by decide +kernel
theorem d_X_point_104 : decode b_X_point 104 = .ok (.getfield 16, 3) := by decide +kernel
theorem d_X_point_107 : decode b_X_point 107 = .ok (.iload 5, 2) := by decide +kernel
theorem d_X_point_109 : decode b_X_point 109 = .ok (.iaload, 1) := by decide +kernel
theorem d_X_point_110 : decode b_X_point 110 = .ok (.ireturn, 1) := by decide +kernel
theorem d_X_fails_0 : decode b_X_fails 0 = .ok (.aload_n 0, 1) := by decide +kernel
theorem d_X_fails_1 : decode b_X_fails 1 = .ok (.iload_n 1, 1) := by decide +kernel
theorem d_X_fails_2 : decode b_X_fails 2 = .ok (.iload_n 2, 1) := by decide +kernel
theorem d_X_fails_3 : decode b_X_fails 3 = .ok (.invokevirtual 70, 3) := by decide +kernel
theorem d_X_fails_6 : decode b_X_fails 6 = .ok (.istore_n 3, 1) := by decide +kernel
theorem d_X_fails_7 : decode b_X_fails 7 = .ok (.aload_n 0, 1) := by decide +kernel
theorem d_X_fails_8 : decode b_X_fails 8 = .ok (.getfield 16, 3) := by decide +kernel
theorem d_X_fails_11 : decode b_X_fails 11 = .ok (.iload_n 3, 1) := by decide +kernel
theorem d_X_fails_12 : decode b_X_fails 12 = .ok (.iaload, 1) := by decide +kernel
theorem d_X_fails_13 : decode b_X_fails 13 = .ok (.istore 4, 2) := by decide +kernel
theorem d_X_fails_15 : decode b_X_fails 15 = .ok (.iload 4, 2) := by decide +kernel
theorem d_X_fails_17 : decode b_X_fails 17 = .ok (.iconst (-1), 1) := by decide +kernel
theorem d_X_fails_18 : decode b_X_fails 18 = .ok (.if_icmp .ne 13, 3) := by decide +kernel
theorem d_X_fails_21 : decode b_X_fails 21 = .ok (.new 82, 3) := by decide +kernel
theorem d_X_fails_24 : decode b_X_fails 24 = .ok (.dup, 1) := by decide +kernel
theorem d_X_fails_25 : decode b_X_fails 25 = .ok (.ldc 93, 2) := by decide +kernel
theorem d_X_fails_27 : decode b_X_fails 27 = .ok (.invokespecial 86, 3) := by decide +kernel
theorem d_X_fails_30 : decode b_X_fails 30 = .ok (.athrow, 1) := by decide +kernel
theorem d_X_fails_31 : decode b_X_fails 31 = .ok (.aload_n 0, 1) := by decide +kernel
theorem d_X_fails_32 : decode b_X_fails 32 = .ok (.iload_n 3, 1) := by decide +kernel
theorem d_X_fails_33 : decode b_X_fails 33 = .ok (.invokevirtual 95, 3) := by decide +kernel
theorem d_X_fails_36 : decode b_X_fails 36 = .ok (.iload 4, 2) := by decide +kernel
theorem d_X_fails_38 : decode b_X_fails 38 = .ok (.ireturn, 1) := by decide +kernel
theorem d_X_failed_0 : decode b_X_failed 0 = .ok (.aload_n 0, 1) := by decide +kernel
theorem d_X_failed_1 : decode b_X_failed 1 = .ok (.getfield 32, 3) := by decide +kernel
theorem d_X_failed_4 : decode b_X_failed 4 = .ok (.ireturn, 1) := by decide +kernel
theorem d_X_failing_0 : decode b_X_failing 0 = .ok (.iload_n 1, 1) := by decide +kernel
theorem d_X_failing_1 : decode b_X_failing 1 = .ok (.ifCond .lt 11, 3) := by decide +kernel
theorem d_X_failing_4 : decode b_X_failing 4 = .ok (.iload_n 1, 1) := by decide +kernel
theorem d_X_failing_5 : decode b_X_failing 5 = .ok (.aload_n 0, 1) := by decide +kernel
theorem d_X_failing_6 : decode b_X_failing 6 = .ok (.getfield 32, 3) := by decide +kernel
theorem d_X_failing_9 : decode b_X_failing 9 = .ok (.if_icmp .lt 13, 3) := by decide +kernel
theorem d_X_failing_12 : decode b_X_failing 12 = .ok (.new 99, 3) := by decide +kernel
theorem d_X_failing_15 : decode b_X_failing 15 = .ok (.dup, 1) := by decide +kernel
theorem d_X_failing_16 : decode b_X_failing 16 = .ok (.ldc 101, 2) := by decide +kernel
theorem d_X_failing_18 : decode b_X_failing 18 = .ok (.invokespecial 103, 3) := by decide +kernel
theorem d_X_failing_21 : decode b_X_failing 21 = .ok (.athrow, 1) := by decide +kernel
theorem d_X_failing_22 : decode b_X_failing 22 = .ok (.iload_n 2, 1) := by decide +kernel
theorem d_X_failing_23 : decode b_X_failing 23 = .ok (.ifCond .eq 18, 3) := by decide +kernel
theorem d_X_failing_26 : decode b_X_failing 26 = .ok (.iload_n 2, 1) := by decide +kernel
theorem d_X_failing_27 : decode b_X_failing 27 = .ok (.iconst 1, 1) := by decide +kernel
theorem d_X_failing_28 : decode b_X_failing 28 = .ok (.if_icmp .eq 13, 3) := by decide +kernel
theorem d_X_failing_31 : decode b_X_failing 31 = .ok (.new 75, 3) := by decide +kernel
theorem d_X_failing_34 : decode b_X_failing 34 = .ok (.dup, 1) := by decide +kernel
theorem d_X_failing_35 : decode b_X_failing 35 = .ok (.ldc 104, 2) := by decide +kernel
theorem d_X_failing_37 : decode b_X_failing 37 = .ok (.invokespecial 79, 3) := by decide +kernel
theorem d_X_failing_40 : decode b_X_failing 40 = .ok (.athrow, 1) := by decide +kernel
theorem d_X_failing_41 : decode b_X_failing 41 = .ok (.aload_n 0, 1) := by decide +kernel
theorem d_X_failing_42 : decode b_X_failing 42 = .ok (.getfield 29, 3) := by decide +kernel
theorem d_X_failing_45 : decode b_X_failing 45 = .ok (.iload_n 1, 1) := by decide +kernel
theorem d_X_failing_46 : decode b_X_failing 46 = .ok (.iaload, 1) := by decide +kernel
theorem d_X_failing_47 : decode b_X_failing 47 = .ok (.istore_n 3, 1) := by decide +kernel
theorem d_X_failing_48 : decode b_X_failing 48 = .ok (.iload_n 2, 1) := by decide +kernel
theorem d_X_failing_49 : decode b_X_failing 49 = .ok (.ifCond .ne 10, 3) := by decide +kernel
theorem d_X_failing_52 : decode b_X_failing 52 = .ok (.iload_n 3, 1) := by decide +kernel
theorem d_X_failing_53 : decode b_X_failing 53 = .ok (.bipush 24, 2) := by decide +kernel
theorem d_X_failing_55 : decode b_X_failing 55 = .ok (.idiv, 1) := by decide +kernel
theorem d_X_failing_56 : decode b_X_failing 56 = .ok (.goto 7, 3) := by decide +kernel
theorem d_X_failing_59 : decode b_X_failing 59 = .ok (.iload_n 3, 1) := by decide +kernel
theorem d_X_failing_60 : decode b_X_failing 60 = .ok (.bipush 24, 2) := by decide +kernel
theorem d_X_failing_62 : decode b_X_failing 62 = .ok (.irem, 1) := by decide +kernel
theorem d_X_failing_63 : decode b_X_failing 63 = .ok (.ireturn, 1) := by decide +kernel
theorem d_X_least_0 : decode b_X_least 0 = .ok (.aload_n 0, 1) := by decide +kernel
theorem d_X_least_1 : decode b_X_least 1 = .ok (.iload_n 1, 1) := by decide +kernel
theorem d_X_least_2 : decode b_X_least 2 = .ok (.invokevirtual 106, 3) := by decide +kernel
theorem d_X_least_5 : decode b_X_least 5 = .ok (.iload_n 2, 1) := by decide +kernel
theorem d_X_least_6 : decode b_X_least 6 = .ok (.ifCond .ge 13, 3) := by decide +kernel
theorem d_X_least_9 : decode b_X_least 9 = .ok (.new 75, 3) := by decide +kernel
theorem d_X_least_12 : decode b_X_least 12 = .ok (.dup, 1) := by decide +kernel
theorem d_X_least_13 : decode b_X_least 13 = .ok (.ldc 109, 2) := by decide +kernel
theorem d_X_least_15 : decode b_X_least 15 = .ok (.invokespecial 79, 3) := by decide +kernel
theorem d_X_least_18 : decode b_X_least 18 = .ok (.athrow, 1) := by decide +kernel
theorem d_X_least_19 : decode b_X_least 19 = .ok (.iconst (-1), 1) := by decide +kernel
theorem d_X_least_20 : decode b_X_least 20 = .ok (.istore_n 3, 1) := by decide +kernel
theorem d_X_least_21 : decode b_X_least 21 = .ok (.iconst 0, 1) := by decide +kernel
theorem d_X_least_22 : decode b_X_least 22 = .ok (.istore 4, 2) := by decide +kernel
theorem d_X_least_24 : decode b_X_least 24 = .ok (.iconst 0, 1) := by decide +kernel
theorem d_X_least_25 : decode b_X_least 25 = .ok (.istore 5, 2) := by decide +kernel
theorem d_X_least_27 : decode b_X_least 27 = .ok (.iload 5, 2) := by decide +kernel
theorem d_X_least_29 : decode b_X_least 29 = .ok (.aload_n 0, 1) := by decide +kernel
theorem d_X_least_30 : decode b_X_least 30 = .ok (.getfield 9, 3) := by decide +kernel
theorem d_X_least_33 : decode b_X_least 33 = .ok (.if_icmp .ge 48, 3) := by decide +kernel
theorem d_X_least_36 : decode b_X_least 36 = .ok (.aload_n 0, 1) := by decide +kernel
theorem d_X_least_37 : decode b_X_least 37 = .ok (.iload 5, 2) := by decide +kernel
theorem d_X_least_39 : decode b_X_least 39 = .ok (.bipush 24, 2) := by decide +kernel
theorem d_X_least_41 : decode b_X_least 41 = .ok (.imul, 1) := by decide +kernel
theorem d_X_least_42 : decode b_X_least 42 = .ok (.iload_n 1, 1) := by decide +kernel
theorem d_X_least_43 : decode b_X_least 43 = .ok (.iadd, 1) := by decide +kernel
theorem d_X_least_44 : decode b_X_least 44 = .ok (.iload_n 2, 1) := by decide +kernel
theorem d_X_least_45 : decode b_X_least 45 = .ok (.invokevirtual 111, 3) := by decide +kernel
theorem d_X_least_48 : decode b_X_least 48 = .ok (.istore 6, 2) := by decide +kernel
theorem d_X_least_50 : decode b_X_least 50 = .ok (.iload 6, 2) := by decide +kernel
theorem d_X_least_52 : decode b_X_least 52 = .ok (.iconst (-1), 1) := by decide +kernel
theorem d_X_least_53 : decode b_X_least 53 = .ok (.if_icmp .eq 22, 3) := by decide +kernel
theorem d_X_least_56 : decode b_X_least 56 = .ok (.iload_n 3, 1) := by decide +kernel
theorem d_X_least_57 : decode b_X_least 57 = .ok (.iconst (-1), 1) := by decide +kernel
theorem d_X_least_58 : decode b_X_least 58 = .ok (.if_icmp .eq 10, 3) := by decide +kernel
theorem d_X_least_61 : decode b_X_least 61 = .ok (.iload 6, 2) := by decide +kernel
theorem d_X_least_63 : decode b_X_least 63 = .ok (.iload 4, 2) := by decide +kernel
theorem d_X_least_65 : decode b_X_least 65 = .ok (.if_icmp .ge 10, 3) := by decide +kernel
theorem d_X_least_68 : decode b_X_least 68 = .ok (.iload 5, 2) := by decide +kernel
theorem d_X_least_70 : decode b_X_least 70 = .ok (.istore_n 3, 1) := by decide +kernel
theorem d_X_least_71 : decode b_X_least 71 = .ok (.iload 6, 2) := by decide +kernel
theorem d_X_least_73 : decode b_X_least 73 = .ok (.istore 4, 2) := by decide +kernel
theorem d_X_least_75 : decode b_X_least 75 = .ok (.iinc 5 1, 3) := by decide +kernel
theorem d_X_least_78 : decode b_X_least 78 = .ok (.goto (-51), 3) := by decide +kernel
theorem d_X_least_81 : decode b_X_least 81 = .ok (.iload_n 3, 1) := by decide +kernel
theorem d_X_least_82 : decode b_X_least 82 = .ok (.ireturn, 1) := by decide +kernel
theorem d_X_sum_0 : decode b_X_sum 0 = .ok (.aload_n 0, 1) := by decide +kernel
theorem d_X_sum_1 : decode b_X_sum 1 = .ok (.iload_n 1, 1) := by decide +kernel
theorem d_X_sum_2 : decode b_X_sum 2 = .ok (.invokevirtual 114, 3) := by decide +kernel
theorem d_X_sum_5 : decode b_X_sum 5 = .ok (.aload_n 0, 1) := by decide +kernel
theorem d_X_sum_6 : decode b_X_sum 6 = .ok (.iload_n 1, 1) := by decide +kernel
theorem d_X_sum_7 : decode b_X_sum 7 = .ok (.invokevirtual 117, 3) := by decide +kernel
theorem d_X_sum_10 : decode b_X_sum 10 = .ok (.ifCond .ne 9, 3) := by decide +kernel
theorem d_X_sum_13 : decode b_X_sum 13 = .ok (.ldc2_w 121, 3) := by decide +kernel
theorem d_X_sum_16 : decode b_X_sum 16 = .ok (.goto 8, 3) := by decide +kernel
theorem d_X_sum_19 : decode b_X_sum 19 = .ok (.aload_n 0, 1) := by decide +kernel
theorem d_X_sum_20 : decode b_X_sum 20 = .ok (.iload_n 1, 1) := by decide +kernel
theorem d_X_sum_21 : decode b_X_sum 21 = .ok (.invokevirtual 123, 3) := by decide +kernel
theorem d_X_sum_24 : decode b_X_sum 24 = .ok (.lreturn, 1) := by decide +kernel
theorem d_X_mean_0 : decode b_X_mean 0 = .ok (.aload_n 0, 1) := by decide +kernel
theorem d_X_mean_1 : decode b_X_mean 1 = .ok (.iload_n 1, 1) := by decide +kernel
theorem d_X_mean_2 : decode b_X_mean 2 = .ok (.invokevirtual 114, 3) := by decide +kernel
theorem d_X_mean_5 : decode b_X_mean 5 = .ok (.aload_n 0, 1) := by decide +kernel
theorem d_X_mean_6 : decode b_X_mean 6 = .ok (.iload_n 1, 1) := by decide +kernel
theorem d_X_mean_7 : decode b_X_mean 7 = .ok (.invokevirtual 127, 3) := by decide +kernel
theorem d_X_mean_10 : decode b_X_mean 10 = .ok (.aload_n 0, 1) := by decide +kernel
theorem d_X_mean_11 : decode b_X_mean 11 = .ok (.iload_n 1, 1) := by decide +kernel
theorem d_X_mean_12 : decode b_X_mean 12 = .ok (.invokevirtual 123, 3) := by decide +kernel
theorem d_X_mean_15 : decode b_X_mean 15 = .ok (.lstore_n 3, 1) := by decide +kernel
theorem d_X_mean_16 : decode b_X_mean 16 = .ok (.aload_n 0, 1) := by decide +kernel
theorem d_X_mean_17 : decode b_X_mean 17 = .ok (.iload_n 1, 1) := by decide +kernel
theorem d_X_mean_18 : decode b_X_mean 18 = .ok (.invokevirtual 117, 3) := by decide +kernel
theorem d_X_mean_21 : decode b_X_mean 21 = .ok (.i2l, 1) := by decide +kernel
theorem d_X_mean_22 : decode b_X_mean 22 = .ok (.lstore 5, 2) := by decide +kernel
theorem d_X_mean_24 : decode b_X_mean 24 = .ok (.iload_n 2, 1) := by decide +kernel
theorem d_X_mean_25 : decode b_X_mean 25 = .ok (.ifCond .eq 12, 3) := by decide +kernel
theorem d_X_mean_28 : decode b_X_mean 28 = .ok (.lload_n 3, 1) := by decide +kernel
theorem d_X_mean_29 : decode b_X_mean 29 = .ok (.lload 5, 2) := by decide +kernel
theorem d_X_mean_31 : decode b_X_mean 31 = .ok (.invokestatic 130, 3) := by decide +kernel
theorem d_X_mean_34 : decode b_X_mean 34 = .ok (.goto 9, 3) := by decide +kernel
theorem d_X_mean_37 : decode b_X_mean 37 = .ok (.lload 5, 2) := by decide +kernel
theorem d_X_mean_39 : decode b_X_mean 39 = .ok (.lload_n 3, 1) := by decide +kernel
theorem d_X_mean_40 : decode b_X_mean 40 = .ok (.invokestatic 130, 3) := by decide +kernel
theorem d_X_mean_43 : decode b_X_mean 43 = .ok (.lreturn, 1) := by decide +kernel
theorem d_X_rank_0 : decode b_X_rank 0 = .ok (.aload_n 0, 1) := by decide +kernel
theorem d_X_rank_1 : decode b_X_rank 1 = .ok (.iload_n 1, 1) := by decide +kernel
theorem d_X_rank_2 : decode b_X_rank 2 = .ok (.invokevirtual 114, 3) := by decide +kernel
theorem d_X_rank_5 : decode b_X_rank 5 = .ok (.aload_n 0, 1) := by decide +kernel
theorem d_X_rank_6 : decode b_X_rank 6 = .ok (.iload_n 1, 1) := by decide +kernel
theorem d_X_rank_7 : decode b_X_rank 7 = .ok (.invokevirtual 127, 3) := by decide +kernel
theorem d_X_rank_10 : decode b_X_rank 10 = .ok (.aload_n 0, 1) := by decide +kernel
theorem d_X_rank_11 : decode b_X_rank 11 = .ok (.iload_n 1, 1) := by decide +kernel
theorem d_X_rank_12 : decode b_X_rank 12 = .ok (.invokevirtual 134, 3) := by decide +kernel
theorem d_X_rank_15 : decode b_X_rank 15 = .ok (.ireturn, 1) := by decide +kernel
theorem d_X_hull_0 : decode b_X_hull 0 = .ok (.aload_n 0, 1) := by decide +kernel
theorem d_X_hull_1 : decode b_X_hull 1 = .ok (.aload_n 0, 1) := by decide +kernel
theorem d_X_hull_2 : decode b_X_hull 2 = .ok (.iload_n 1, 1) := by decide +kernel
theorem d_X_hull_3 : decode b_X_hull 3 = .ok (.iload_n 2, 1) := by decide +kernel
theorem d_X_hull_4 : decode b_X_hull 4 = .ok (.invokevirtual 70, 3) := by decide +kernel
theorem d_X_hull_7 : decode b_X_hull 7 = .ok (.invokevirtual 137, 3) := by decide +kernel
theorem d_X_hull_10 : decode b_X_hull 10 = .ok (.aload_n 0, 1) := by decide +kernel
theorem d_X_hull_11 : decode b_X_hull 11 = .ok (.getfield 38, 3) := by decide +kernel
theorem d_X_hull_14 : decode b_X_hull 14 = .ok (.ireturn, 1) := by decide +kernel
theorem d_X_onHull_0 : decode b_X_onHull 0 = .ok (.aload_n 0, 1) := by decide +kernel
theorem d_X_onHull_1 : decode b_X_onHull 1 = .ok (.aload_n 0, 1) := by decide +kernel
theorem d_X_onHull_2 : decode b_X_onHull 2 = .ok (.iload_n 1, 1) := by decide +kernel
theorem d_X_onHull_3 : decode b_X_onHull 3 = .ok (.iload_n 2, 1) := by decide +kernel
theorem d_X_onHull_4 : decode b_X_onHull 4 = .ok (.invokevirtual 70, 3) := by decide +kernel
theorem d_X_onHull_7 : decode b_X_onHull 7 = .ok (.invokevirtual 137, 3) := by decide +kernel
theorem d_X_onHull_10 : decode b_X_onHull 10 = .ok (.iload_n 3, 1) := by decide +kernel
theorem d_X_onHull_11 : decode b_X_onHull 11 = .ok (.ifCond .lt 11, 3) := by decide +kernel
theorem d_X_onHull_14 : decode b_X_onHull 14 = .ok (.iload_n 3, 1) := by decide +kernel
theorem d_X_onHull_15 : decode b_X_onHull 15 = .ok (.aload_n 0, 1) := by decide +kernel
theorem d_X_onHull_16 : decode b_X_onHull 16 = .ok (.getfield 38, 3) := by decide +kernel
theorem d_X_onHull_19 : decode b_X_onHull 19 = .ok (.if_icmp .lt 13, 3) := by decide +kernel
theorem d_X_onHull_22 : decode b_X_onHull 22 = .ok (.new 99, 3) := by decide +kernel
theorem d_X_onHull_25 : decode b_X_onHull 25 = .ok (.dup, 1) := by decide +kernel
theorem d_X_onHull_26 : decode b_X_onHull 26 = .ok (.ldc 140, 2) := by decide +kernel
theorem d_X_onHull_28 : decode b_X_onHull 28 = .ok (.invokespecial 103, 3) := by decide +kernel
theorem d_X_onHull_31 : decode b_X_onHull 31 = .ok (.athrow, 1) := by decide +kernel
theorem d_X_onHull_32 : decode b_X_onHull 32 = .ok (.iload 4, 2) := by decide +kernel
theorem d_X_onHull_34 : decode b_X_onHull 34 = .ok (.ifCond .eq 19, 3) := by decide +kernel
theorem d_X_onHull_37 : decode b_X_onHull 37 = .ok (.iload 4, 2) := by decide +kernel
theorem d_X_onHull_39 : decode b_X_onHull 39 = .ok (.iconst 1, 1) := by decide +kernel
theorem d_X_onHull_40 : decode b_X_onHull 40 = .ok (.if_icmp .eq 13, 3) := by decide +kernel
theorem d_X_onHull_43 : decode b_X_onHull 43 = .ok (.new 75, 3) := by decide +kernel
theorem d_X_onHull_46 : decode b_X_onHull 46 = .ok (.dup, 1) := by decide +kernel
theorem d_X_onHull_47 : decode b_X_onHull 47 = .ok (.ldc 142, 2) := by decide +kernel
theorem d_X_onHull_49 : decode b_X_onHull 49 = .ok (.invokespecial 79, 3) := by decide +kernel
theorem d_X_onHull_52 : decode b_X_onHull 52 = .ok (.athrow, 1) := by decide +kernel
theorem d_X_onHull_53 : decode b_X_onHull 53 = .ok (.aload_n 0, 1) := by decide +kernel
theorem d_X_onHull_54 : decode b_X_onHull 54 = .ok (.getfield 35, 3) := by decide +kernel
theorem d_X_onHull_57 : decode b_X_onHull 57 = .ok (.iload_n 3, 1) := by decide +kernel
theorem d_X_onHull_58 : decode b_X_onHull 58 = .ok (.iaload, 1) := by decide +kernel
theorem d_X_onHull_59 : decode b_X_onHull 59 = .ok (.istore 5, 2) := by decide +kernel
theorem d_X_onHull_61 : decode b_X_onHull 61 = .ok (.iload 4, 2) := by decide +kernel
theorem d_X_onHull_63 : decode b_X_onHull 63 = .ok (.ifCond .ne 13, 3) := by decide +kernel
theorem d_X_onHull_66 : decode b_X_onHull 66 = .ok (.aload_n 0, 1) := by decide +kernel
theorem d_X_onHull_67 : decode b_X_onHull 67 = .ok (.getfield 23, 3) := by decide +kernel
theorem d_X_onHull_70 : decode b_X_onHull 70 = .ok (.iload 5, 2) := by decide +kernel
theorem d_X_onHull_72 : decode b_X_onHull 72 = .ok (.iaload, 1) := by decide +kernel
theorem d_X_onHull_73 : decode b_X_onHull 73 = .ok (.goto 10, 3) := by decide +kernel
theorem d_X_onHull_76 : decode b_X_onHull 76 = .ok (.aload_n 0, 1) := by decide +kernel
theorem d_X_onHull_77 : decode b_X_onHull 77 = .ok (.getfield 26, 3) := by decide +kernel
theorem d_X_onHull_80 : decode b_X_onHull 80 = .ok (.iload 5, 2) := by decide +kernel
theorem d_X_onHull_82 : decode b_X_onHull 82 = .ok (.iaload, 1) := by decide +kernel
theorem d_X_onHull_83 : decode b_X_onHull 83 = .ok (.ireturn, 1) := by decide +kernel
theorem d_X_slope_0 : decode b_X_slope 0 = .ok (.aload_n 0, 1) := by decide +kernel
theorem d_X_slope_1 : decode b_X_slope 1 = .ok (.aload_n 0, 1) := by decide +kernel
theorem d_X_slope_2 : decode b_X_slope 2 = .ok (.iload_n 1, 1) := by decide +kernel
theorem d_X_slope_3 : decode b_X_slope 3 = .ok (.iload_n 2, 1) := by decide +kernel
theorem d_X_slope_4 : decode b_X_slope 4 = .ok (.invokevirtual 70, 3) := by decide +kernel
theorem d_X_slope_7 : decode b_X_slope 7 = .ok (.invokevirtual 137, 3) := by decide +kernel
theorem d_X_slope_10 : decode b_X_slope 10 = .ok (.iload_n 3, 1) := by decide +kernel
theorem d_X_slope_11 : decode b_X_slope 11 = .ok (.ifCond .lt 13, 3) := by decide +kernel
theorem d_X_slope_14 : decode b_X_slope 14 = .ok (.iload_n 3, 1) := by decide +kernel
theorem d_X_slope_15 : decode b_X_slope 15 = .ok (.aload_n 0, 1) := by decide +kernel
theorem d_X_slope_16 : decode b_X_slope 16 = .ok (.getfield 38, 3) := by decide +kernel
theorem d_X_slope_19 : decode b_X_slope 19 = .ok (.iconst 1, 1) := by decide +kernel
theorem d_X_slope_20 : decode b_X_slope 20 = .ok (.isub, 1) := by decide +kernel
theorem d_X_slope_21 : decode b_X_slope 21 = .ok (.if_icmp .lt 13, 3) := by decide +kernel
theorem d_X_slope_24 : decode b_X_slope 24 = .ok (.new 99, 3) := by decide +kernel
theorem d_X_slope_27 : decode b_X_slope 27 = .ok (.dup, 1) := by decide +kernel
theorem d_X_slope_28 : decode b_X_slope 28 = .ok (.ldc 144, 2) := by decide +kernel
theorem d_X_slope_30 : decode b_X_slope 30 = .ok (.invokespecial 103, 3) := by decide +kernel
theorem d_X_slope_33 : decode b_X_slope 33 = .ok (.athrow, 1) := by decide +kernel
theorem d_X_slope_34 : decode b_X_slope 34 = .ok (.aload_n 0, 1) := by decide +kernel
theorem d_X_slope_35 : decode b_X_slope 35 = .ok (.aload_n 0, 1) := by decide +kernel
theorem d_X_slope_36 : decode b_X_slope 36 = .ok (.getfield 35, 3) := by decide +kernel
theorem d_X_slope_39 : decode b_X_slope 39 = .ok (.iload_n 3, 1) := by decide +kernel
theorem d_X_slope_40 : decode b_X_slope 40 = .ok (.iaload, 1) := by decide +kernel
theorem d_X_slope_41 : decode b_X_slope 41 = .ok (.aload_n 0, 1) := by decide +kernel
theorem d_X_slope_42 : decode b_X_slope 42 = .ok (.getfield 35, 3) := by decide +kernel
theorem d_X_slope_45 : decode b_X_slope 45 = .ok (.iload_n 3, 1) := by decide +kernel
theorem d_X_slope_46 : decode b_X_slope 46 = .ok (.iconst 1, 1) := by decide +kernel
theorem d_X_slope_47 : decode b_X_slope 47 = .ok (.iadd, 1) := by decide +kernel
theorem d_X_slope_48 : decode b_X_slope 48 = .ok (.iaload, 1) := by decide +kernel
theorem d_X_slope_49 : decode b_X_slope 49 = .ok (.invokevirtual 146, 3) := by decide +kernel
theorem d_X_slope_52 : decode b_X_slope 52 = .ok (.lstore 5, 2) := by decide +kernel
theorem d_X_slope_54 : decode b_X_slope 54 = .ok (.aload_n 0, 1) := by decide +kernel
theorem d_X_slope_55 : decode b_X_slope 55 = .ok (.aload_n 0, 1) := by decide +kernel
theorem d_X_slope_56 : decode b_X_slope 56 = .ok (.getfield 35, 3) := by decide +kernel
theorem d_X_slope_59 : decode b_X_slope 59 = .ok (.iload_n 3, 1) := by decide +kernel
theorem d_X_slope_60 : decode b_X_slope 60 = .ok (.iaload, 1) := by decide +kernel
theorem d_X_slope_61 : decode b_X_slope 61 = .ok (.aload_n 0, 1) := by decide +kernel
theorem d_X_slope_62 : decode b_X_slope 62 = .ok (.getfield 35, 3) := by decide +kernel
theorem d_X_slope_65 : decode b_X_slope 65 = .ok (.iload_n 3, 1) := by decide +kernel
theorem d_X_slope_66 : decode b_X_slope 66 = .ok (.iconst 1, 1) := by decide +kernel
theorem d_X_slope_67 : decode b_X_slope 67 = .ok (.iadd, 1) := by decide +kernel
theorem d_X_slope_68 : decode b_X_slope 68 = .ok (.iaload, 1) := by decide +kernel
theorem d_X_slope_69 : decode b_X_slope 69 = .ok (.invokevirtual 150, 3) := by decide +kernel
theorem d_X_slope_72 : decode b_X_slope 72 = .ok (.lstore 7, 2) := by decide +kernel
theorem d_X_slope_74 : decode b_X_slope 74 = .ok (.iload 4, 2) := by decide +kernel
theorem d_X_slope_76 : decode b_X_slope 76 = .ok (.ifCond .eq 13, 3) := by decide +kernel
theorem d_X_slope_79 : decode b_X_slope 79 = .ok (.lload 5, 2) := by decide +kernel
theorem d_X_slope_81 : decode b_X_slope 81 = .ok (.lload 7, 2) := by decide +kernel
theorem d_X_slope_83 : decode b_X_slope 83 = .ok (.invokestatic 130, 3) := by decide +kernel
theorem d_X_slope_86 : decode b_X_slope 86 = .ok (.goto 10, 3) := by decide +kernel
theorem d_X_slope_89 : decode b_X_slope 89 = .ok (.lload 7, 2) := by decide +kernel
theorem d_X_slope_91 : decode b_X_slope 91 = .ok (.lload 5, 2) := by decide +kernel
theorem d_X_slope_93 : decode b_X_slope 93 = .ok (.invokestatic 130, 3) := by decide +kernel
theorem d_X_slope_96 : decode b_X_slope 96 = .ok (.lreturn, 1) := by decide +kernel
theorem d_X_signs_0 : decode b_X_signs 0 = .ok (.aload_n 0, 1) := by decide +kernel
theorem d_X_signs_1 : decode b_X_signs 1 = .ok (.iload_n 1, 1) := by decide +kernel
theorem d_X_signs_2 : decode b_X_signs 2 = .ok (.invokevirtual 114, 3) := by decide +kernel
theorem d_X_signs_5 : decode b_X_signs 5 = .ok (.aload_n 0, 1) := by decide +kernel
theorem d_X_signs_6 : decode b_X_signs 6 = .ok (.iload_n 2, 1) := by decide +kernel
theorem d_X_signs_7 : decode b_X_signs 7 = .ok (.invokevirtual 114, 3) := by decide +kernel
theorem d_X_signs_10 : decode b_X_signs 10 = .ok (.iload_n 3, 1) := by decide +kernel
theorem d_X_signs_11 : decode b_X_signs 11 = .ok (.ifCond .lt 8, 3) := by decide +kernel
theorem d_X_signs_14 : decode b_X_signs 14 = .ok (.iload_n 3, 1) := by decide +kernel
theorem d_X_signs_15 : decode b_X_signs 15 = .ok (.iconst 3, 1) := by decide +kernel
theorem d_X_signs_16 : decode b_X_signs 16 = .ok (.if_icmp .le 13, 3) := by decide +kernel
theorem d_X_signs_19 : decode b_X_signs 19 = .ok (.new 75, 3) := by decide +kernel
theorem d_X_signs_22 : decode b_X_signs 22 = .ok (.dup, 1) := by decide +kernel
theorem d_X_signs_23 : decode b_X_signs 23 = .ok (.ldc 153, 2) := by decide +kernel
theorem d_X_signs_25 : decode b_X_signs 25 = .ok (.invokespecial 79, 3) := by decide +kernel
theorem d_X_signs_28 : decode b_X_signs 28 = .ok (.athrow, 1) := by decide +kernel
theorem d_X_signs_29 : decode b_X_signs 29 = .ok (.aload_n 0, 1) := by decide +kernel
theorem d_X_signs_30 : decode b_X_signs 30 = .ok (.iload_n 1, 1) := by decide +kernel
theorem d_X_signs_31 : decode b_X_signs 31 = .ok (.iload_n 2, 1) := by decide +kernel
theorem d_X_signs_32 : decode b_X_signs 32 = .ok (.invokevirtual 155, 3) := by decide +kernel
theorem d_X_signs_35 : decode b_X_signs 35 = .ok (.aload_n 0, 1) := by decide +kernel
theorem d_X_signs_36 : decode b_X_signs 36 = .ok (.iconst 1, 1) := by decide +kernel
theorem d_X_signs_37 : decode b_X_signs 37 = .ok (.invokevirtual 159, 3) := by decide +kernel
theorem d_X_signs_40 : decode b_X_signs 40 = .ok (.istore 4, 2) := by decide +kernel
theorem d_X_signs_42 : decode b_X_signs 42 = .ok (.aload_n 0, 1) := by decide +kernel
theorem d_X_signs_43 : decode b_X_signs 43 = .ok (.iconst 0, 1) := by decide +kernel
theorem d_X_signs_44 : decode b_X_signs 44 = .ok (.invokevirtual 159, 3) := by decide +kernel
theorem d_X_signs_47 : decode b_X_signs 47 = .ok (.istore 5, 2) := by decide +kernel
theorem d_X_signs_49 : decode b_X_signs 49 = .ok (.iload_n 3, 1) := by decide +kernel
theorem d_X_signs_50 : decode b_X_signs 50 = .ok (.lookupswitch 34 #[(0, 26), (1, 30)], 26) := by decide +kernel
theorem d_X_signs_76 : decode b_X_signs 76 = .ok (.iload 4, 2) := by decide +kernel
theorem d_X_signs_78 : decode b_X_signs 78 = .ok (.i2l, 1) := by decide +kernel
theorem d_X_signs_79 : decode b_X_signs 79 = .ok (.lreturn, 1) := by decide +kernel
theorem d_X_signs_80 : decode b_X_signs 80 = .ok (.iload 5, 2) := by decide +kernel
theorem d_X_signs_82 : decode b_X_signs 82 = .ok (.i2l, 1) := by decide +kernel
theorem d_X_signs_83 : decode b_X_signs 83 = .ok (.lreturn, 1) := by decide +kernel
theorem d_X_signs_84 : decode b_X_signs 84 = .ok (.iload 4, 2) := by decide +kernel
theorem d_X_signs_86 : decode b_X_signs 86 = .ok (.iload 5, 2) := by decide +kernel
theorem d_X_signs_88 : decode b_X_signs 88 = .ok (.iadd, 1) := by decide +kernel
theorem d_X_signs_89 : decode b_X_signs 89 = .ok (.iload 4, 2) := by decide +kernel
theorem d_X_signs_91 : decode b_X_signs 91 = .ok (.iload 5, 2) := by decide +kernel
theorem d_X_signs_93 : decode b_X_signs 93 = .ok (.invokestatic 163, 3) := by decide +kernel
theorem d_X_signs_96 : decode b_X_signs 96 = .ok (.iload_n 3, 1) := by decide +kernel
theorem d_X_signs_97 : decode b_X_signs 97 = .ok (.iconst 2, 1) := by decide +kernel
theorem d_X_signs_98 : decode b_X_signs 98 = .ok (.if_icmp .ne 7, 3) := by decide +kernel
theorem d_X_signs_101 : decode b_X_signs 101 = .ok (.iconst 1, 1) := by decide +kernel
theorem d_X_signs_102 : decode b_X_signs 102 = .ok (.goto 4, 3) := by decide +kernel
theorem d_X_signs_105 : decode b_X_signs 105 = .ok (.iconst 0, 1) := by decide +kernel
theorem d_X_signs_106 : decode b_X_signs 106 = .ok (.invokestatic 168, 3) := by decide +kernel
theorem d_X_signs_109 : decode b_X_signs 109 = .ok (.lreturn, 1) := by decide +kernel
theorem d_X_draws_0 : decode b_X_draws 0 = .ok (.aload_n 0, 1) := by decide +kernel
theorem d_X_draws_1 : decode b_X_draws 1 = .ok (.iload_n 1, 1) := by decide +kernel
theorem d_X_draws_2 : decode b_X_draws 2 = .ok (.invokevirtual 114, 3) := by decide +kernel
theorem d_X_draws_5 : decode b_X_draws 5 = .ok (.aload_n 0, 1) := by decide +kernel
theorem d_X_draws_6 : decode b_X_draws 6 = .ok (.iload_n 2, 1) := by decide +kernel
theorem d_X_draws_7 : decode b_X_draws 7 = .ok (.invokevirtual 114, 3) := by decide +kernel
theorem d_X_draws_10 : decode b_X_draws 10 = .ok (.iload 5, 2) := by decide +kernel
theorem d_X_draws_12 : decode b_X_draws 12 = .ok (.ifCond .lt 11, 3) := by decide +kernel
theorem d_X_draws_15 : decode b_X_draws 15 = .ok (.iload 5, 2) := by decide +kernel
theorem d_X_draws_17 : decode b_X_draws 17 = .ok (.sipush 200, 3) := by decide +kernel
theorem d_X_draws_20 : decode b_X_draws 20 = .ok (.if_icmp .le 13, 3) := by decide +kernel
theorem d_X_draws_23 : decode b_X_draws 23 = .ok (.new 75, 3) := by decide +kernel
theorem d_X_draws_26 : decode b_X_draws 26 = .ok (.dup, 1) := by decide +kernel
theorem d_X_draws_27 : decode b_X_draws 27 = .ok (.ldc 172, 2) := by decide +kernel
theorem d_X_draws_29 : decode b_X_draws 29 = .ok (.invokespecial 79, 3) := by decide +kernel
theorem d_X_draws_32 : decode b_X_draws 32 = .ok (.athrow, 1) := by decide +kernel
theorem d_X_draws_33 : decode b_X_draws 33 = .ok (.aload_n 0, 1) := by decide +kernel
theorem d_X_draws_34 : decode b_X_draws 34 = .ok (.iload_n 1, 1) := by decide +kernel
theorem d_X_draws_35 : decode b_X_draws 35 = .ok (.iload_n 2, 1) := by decide +kernel
theorem d_X_draws_36 : decode b_X_draws 36 = .ok (.invokevirtual 155, 3) := by decide +kernel
theorem d_X_draws_39 : decode b_X_draws 39 = .ok (.aload_n 0, 1) := by decide +kernel
theorem d_X_draws_40 : decode b_X_draws 40 = .ok (.getfield 44, 3) := by decide +kernel
theorem d_X_draws_43 : decode b_X_draws 43 = .ok (.ifCond .ne 13, 3) := by decide +kernel
theorem d_X_draws_46 : decode b_X_draws 46 = .ok (.new 82, 3) := by decide +kernel
theorem d_X_draws_49 : decode b_X_draws 49 = .ok (.dup, 1) := by decide +kernel
theorem d_X_draws_50 : decode b_X_draws 50 = .ok (.ldc 174, 2) := by decide +kernel
theorem d_X_draws_52 : decode b_X_draws 52 = .ok (.invokespecial 86, 3) := by decide +kernel
theorem d_X_draws_55 : decode b_X_draws 55 = .ok (.athrow, 1) := by decide +kernel
theorem d_X_draws_56 : decode b_X_draws 56 = .ok (.aload_n 0, 1) := by decide +kernel
theorem d_X_draws_57 : decode b_X_draws 57 = .ok (.getfield 50, 3) := by decide +kernel
theorem d_X_draws_60 : decode b_X_draws 60 = .ok (.lload_n 3, 1) := by decide +kernel
theorem d_X_draws_61 : decode b_X_draws 61 = .ok (.invokevirtual 176, 3) := by decide +kernel
theorem d_X_draws_64 : decode b_X_draws 64 = .ok (.iconst 0, 1) := by decide +kernel
theorem d_X_draws_65 : decode b_X_draws 65 = .ok (.istore 6, 2) := by decide +kernel
theorem d_X_draws_67 : decode b_X_draws 67 = .ok (.iconst 0, 1) := by decide +kernel
theorem d_X_draws_68 : decode b_X_draws 68 = .ok (.istore 7, 2) := by decide +kernel
theorem d_X_draws_70 : decode b_X_draws 70 = .ok (.iload 7, 2) := by decide +kernel
theorem d_X_draws_72 : decode b_X_draws 72 = .ok (.iload 5, 2) := by decide +kernel
theorem d_X_draws_74 : decode b_X_draws 74 = .ok (.if_icmp .ge 21, 3) := by decide +kernel
theorem d_X_draws_77 : decode b_X_draws 77 = .ok (.aload_n 0, 1) := by decide +kernel
theorem d_X_draws_78 : decode b_X_draws 78 = .ok (.invokevirtual 180, 3) := by decide +kernel
theorem d_X_draws_81 : decode b_X_draws 81 = .ok (.lconst 0, 1) := by decide +kernel
theorem d_X_draws_82 : decode b_X_draws 82 = .ok (.lcmp, 1) := by decide +kernel
theorem d_X_draws_83 : decode b_X_draws 83 = .ok (.ifCond .ge 6, 3) := by decide +kernel
theorem d_X_draws_86 : decode b_X_draws 86 = .ok (.iinc 6 1, 3) := by decide +kernel
theorem d_X_draws_89 : decode b_X_draws 89 = .ok (.iinc 7 1, 3) := by decide +kernel
theorem d_X_draws_92 : decode b_X_draws 92 = .ok (.goto (-22), 3) := by decide +kernel
theorem d_X_draws_95 : decode b_X_draws 95 = .ok (.iload 6, 2) := by decide +kernel
theorem d_X_draws_97 : decode b_X_draws 97 = .ok (.ireturn, 1) := by decide +kernel
theorem d_X_fill_0 : decode b_X_fill 0 = .ok (.aload_n 0, 1) := by decide +kernel
theorem d_X_fill_1 : decode b_X_fill 1 = .ok (.invokevirtual 184, 3) := by decide +kernel
theorem d_X_fill_4 : decode b_X_fill 4 = .ok (.aload_n 0, 1) := by decide +kernel
theorem d_X_fill_5 : decode b_X_fill 5 = .ok (.getfield 50, 3) := by decide +kernel
theorem d_X_fill_8 : decode b_X_fill 8 = .ok (.lload_n 1, 1) := by decide +kernel
theorem d_X_fill_9 : decode b_X_fill 9 = .ok (.invokevirtual 176, 3) := by decide +kernel
theorem d_X_fill_12 : decode b_X_fill 12 = .ok (.iconst 0, 1) := by decide +kernel
theorem d_X_fill_13 : decode b_X_fill 13 = .ok (.istore_n 3, 1) := by decide +kernel
theorem d_X_fill_14 : decode b_X_fill 14 = .ok (.iconst 0, 1) := by decide +kernel
theorem d_X_fill_15 : decode b_X_fill 15 = .ok (.istore 4, 2) := by decide +kernel
theorem d_X_fill_17 : decode b_X_fill 17 = .ok (.iload 4, 2) := by decide +kernel
theorem d_X_fill_19 : decode b_X_fill 19 = .ok (.aload_n 0, 1) := by decide +kernel
theorem d_X_fill_20 : decode b_X_fill 20 = .ok (.getfield 9, 3) := by decide +kernel
theorem d_X_fill_23 : decode b_X_fill 23 = .ok (.if_icmp .ge 42, 3) := by decide +kernel
theorem d_X_fill_26 : decode b_X_fill 26 = .ok (.iconst 0, 1) := by decide +kernel
theorem d_X_fill_27 : decode b_X_fill 27 = .ok (.istore 5, 2) := by decide +kernel
theorem d_X_fill_29 : decode b_X_fill 29 = .ok (.iload 5, 2) := by decide +kernel
theorem d_X_fill_31 : decode b_X_fill 31 = .ok (.aload_n 0, 1) := by decide +kernel
theorem d_X_fill_32 : decode b_X_fill 32 = .ok (.getfield 13, 3) := by decide +kernel
theorem d_X_fill_35 : decode b_X_fill 35 = .ok (.if_icmp .ge 24, 3) := by decide +kernel
theorem d_X_fill_38 : decode b_X_fill 38 = .ok (.iload_n 3, 1) := by decide +kernel
theorem d_X_fill_39 : decode b_X_fill 39 = .ok (.aload_n 0, 1) := by decide +kernel
theorem d_X_fill_40 : decode b_X_fill 40 = .ok (.iload 4, 2) := by decide +kernel
theorem d_X_fill_42 : decode b_X_fill 42 = .ok (.bipush 24, 2) := by decide +kernel
theorem d_X_fill_44 : decode b_X_fill 44 = .ok (.imul, 1) := by decide +kernel
theorem d_X_fill_45 : decode b_X_fill 45 = .ok (.iload 5, 2) := by decide +kernel
theorem d_X_fill_47 : decode b_X_fill 47 = .ok (.iadd, 1) := by decide +kernel
theorem d_X_fill_48 : decode b_X_fill 48 = .ok (.invokevirtual 187, 3) := by decide +kernel
theorem d_X_fill_51 : decode b_X_fill 51 = .ok (.iadd, 1) := by decide +kernel
theorem d_X_fill_52 : decode b_X_fill 52 = .ok (.istore_n 3, 1) := by decide +kernel
theorem d_X_fill_53 : decode b_X_fill 53 = .ok (.iinc 5 1, 3) := by decide +kernel
theorem d_X_fill_56 : decode b_X_fill 56 = .ok (.goto (-27), 3) := by decide +kernel
theorem d_X_fill_59 : decode b_X_fill 59 = .ok (.iinc 4 1, 3) := by decide +kernel
theorem d_X_fill_62 : decode b_X_fill 62 = .ok (.goto (-45), 3) := by decide +kernel
theorem d_X_fill_65 : decode b_X_fill 65 = .ok (.iload_n 3, 1) := by decide +kernel
theorem d_X_fill_66 : decode b_X_fill 66 = .ok (.ireturn, 1) := by decide +kernel
theorem d_X_text_0 : decode b_X_text 0 = .ok (.aload_n 0, 1) := by decide +kernel
theorem d_X_text_1 : decode b_X_text 1 = .ok (.getfield 57, 3) := by decide +kernel
theorem d_X_text_4 : decode b_X_text 4 = .ok (.invokevirtual 190, 3) := by decide +kernel
theorem d_X_text_7 : decode b_X_text 7 = .ok (.iconst 0, 1) := by decide +kernel
theorem d_X_text_8 : decode b_X_text 8 = .ok (.istore_n 1, 1) := by decide +kernel
theorem d_X_text_9 : decode b_X_text 9 = .ok (.iload_n 1, 1) := by decide +kernel
theorem d_X_text_10 : decode b_X_text 10 = .ok (.aload_n 0, 1) := by decide +kernel
theorem d_X_text_11 : decode b_X_text 11 = .ok (.getfield 9, 3) := by decide +kernel
theorem d_X_text_14 : decode b_X_text 14 = .ok (.if_icmp .ge 90, 3) := by decide +kernel
theorem d_X_text_17 : decode b_X_text 17 = .ok (.aload_n 0, 1) := by decide +kernel
theorem d_X_text_18 : decode b_X_text 18 = .ok (.getfield 57, 3) := by decide +kernel
theorem d_X_text_21 : decode b_X_text 21 = .ok (.iload_n 1, 1) := by decide +kernel
theorem d_X_text_22 : decode b_X_text 22 = .ok (.i2l, 1) := by decide +kernel
theorem d_X_text_23 : decode b_X_text 23 = .ok (.invokevirtual 192, 3) := by decide +kernel
theorem d_X_text_26 : decode b_X_text 26 = .ok (.aload_n 0, 1) := by decide +kernel
theorem d_X_text_27 : decode b_X_text 27 = .ok (.getfield 57, 3) := by decide +kernel
theorem d_X_text_30 : decode b_X_text 30 = .ok (.bipush 32, 2) := by decide +kernel
theorem d_X_text_32 : decode b_X_text 32 = .ok (.invokevirtual 195, 3) := by decide +kernel
theorem d_X_text_35 : decode b_X_text 35 = .ok (.aload_n 0, 1) := by decide +kernel
theorem d_X_text_36 : decode b_X_text 36 = .ok (.iload_n 1, 1) := by decide +kernel
theorem d_X_text_37 : decode b_X_text 37 = .ok (.invokevirtual 117, 3) := by decide +kernel
theorem d_X_text_40 : decode b_X_text 40 = .ok (.ifCond .ne 15, 3) := by decide +kernel
theorem d_X_text_43 : decode b_X_text 43 = .ok (.aload_n 0, 1) := by decide +kernel
theorem d_X_text_44 : decode b_X_text 44 = .ok (.getfield 57, 3) := by decide +kernel
theorem d_X_text_47 : decode b_X_text 47 = .ok (.bipush 45, 2) := by decide +kernel
theorem d_X_text_49 : decode b_X_text 49 = .ok (.invokevirtual 195, 3) := by decide +kernel
theorem d_X_text_52 : decode b_X_text 52 = .ok (.goto 37, 3) := by decide +kernel
theorem d_X_text_55 : decode b_X_text 55 = .ok (.aload_n 0, 1) := by decide +kernel
theorem d_X_text_56 : decode b_X_text 56 = .ok (.getfield 57, 3) := by decide +kernel
theorem d_X_text_59 : decode b_X_text 59 = .ok (.aload_n 0, 1) := by decide +kernel
theorem d_X_text_60 : decode b_X_text 60 = .ok (.iload_n 1, 1) := by decide +kernel
theorem d_X_text_61 : decode b_X_text 61 = .ok (.invokevirtual 123, 3) := by decide +kernel
theorem d_X_text_64 : decode b_X_text 64 = .ok (.invokevirtual 192, 3) := by decide +kernel
theorem d_X_text_67 : decode b_X_text 67 = .ok (.aload_n 0, 1) := by decide +kernel
theorem d_X_text_68 : decode b_X_text 68 = .ok (.getfield 57, 3) := by decide +kernel
theorem d_X_text_71 : decode b_X_text 71 = .ok (.bipush 32, 2) := by decide +kernel
theorem d_X_text_73 : decode b_X_text 73 = .ok (.invokevirtual 195, 3) := by decide +kernel
theorem d_X_text_76 : decode b_X_text 76 = .ok (.aload_n 0, 1) := by decide +kernel
theorem d_X_text_77 : decode b_X_text 77 = .ok (.getfield 57, 3) := by decide +kernel
theorem d_X_text_80 : decode b_X_text 80 = .ok (.aload_n 0, 1) := by decide +kernel
theorem d_X_text_81 : decode b_X_text 81 = .ok (.iload_n 1, 1) := by decide +kernel
theorem d_X_text_82 : decode b_X_text 82 = .ok (.invokevirtual 134, 3) := by decide +kernel
theorem d_X_text_85 : decode b_X_text 85 = .ok (.i2l, 1) := by decide +kernel
theorem d_X_text_86 : decode b_X_text 86 = .ok (.invokevirtual 192, 3) := by decide +kernel
theorem d_X_text_89 : decode b_X_text 89 = .ok (.aload_n 0, 1) := by decide +kernel
theorem d_X_text_90 : decode b_X_text 90 = .ok (.getfield 57, 3) := by decide +kernel
theorem d_X_text_93 : decode b_X_text 93 = .ok (.bipush 10, 2) := by decide +kernel
theorem d_X_text_95 : decode b_X_text 95 = .ok (.invokevirtual 195, 3) := by decide +kernel
theorem d_X_text_98 : decode b_X_text 98 = .ok (.iinc 1 1, 3) := by decide +kernel
theorem d_X_text_101 : decode b_X_text 101 = .ok (.goto (-92), 3) := by decide +kernel
theorem d_X_text_104 : decode b_X_text 104 = .ok (.aload_n 0, 1) := by decide +kernel
theorem d_X_text_105 : decode b_X_text 105 = .ok (.getfield 57, 3) := by decide +kernel
theorem d_X_text_108 : decode b_X_text 108 = .ok (.getfield 199, 3) := by decide +kernel
theorem d_X_text_111 : decode b_X_text 111 = .ok (.ireturn, 1) := by decide +kernel
theorem d_X_charAt_0 : decode b_X_charAt 0 = .ok (.iload_n 1, 1) := by decide +kernel
theorem d_X_charAt_1 : decode b_X_charAt 1 = .ok (.ifCond .lt 14, 3) := by decide +kernel
theorem d_X_charAt_4 : decode b_X_charAt 4 = .ok (.iload_n 1, 1) := by decide +kernel
theorem d_X_charAt_5 : decode b_X_charAt 5 = .ok (.aload_n 0, 1) := by decide +kernel
theorem d_X_charAt_6 : decode b_X_charAt 6 = .ok (.getfield 57, 3) := by decide +kernel
theorem d_X_charAt_9 : decode b_X_charAt 9 = .ok (.getfield 199, 3) := by decide +kernel
theorem d_X_charAt_12 : decode b_X_charAt 12 = .ok (.if_icmp .lt 13, 3) := by decide +kernel
theorem d_X_charAt_15 : decode b_X_charAt 15 = .ok (.new 99, 3) := by decide +kernel
theorem d_X_charAt_18 : decode b_X_charAt 18 = .ok (.dup, 1) := by decide +kernel
theorem d_X_charAt_19 : decode b_X_charAt 19 = .ok (.ldc 202, 2) := by decide +kernel
theorem d_X_charAt_21 : decode b_X_charAt 21 = .ok (.invokespecial 103, 3) := by decide +kernel
theorem d_X_charAt_24 : decode b_X_charAt 24 = .ok (.athrow, 1) := by decide +kernel
theorem d_X_charAt_25 : decode b_X_charAt 25 = .ok (.aload_n 0, 1) := by decide +kernel
theorem d_X_charAt_26 : decode b_X_charAt 26 = .ok (.getfield 57, 3) := by decide +kernel
theorem d_X_charAt_29 : decode b_X_charAt 29 = .ok (.getfield 204, 3) := by decide +kernel
theorem d_X_charAt_32 : decode b_X_charAt 32 = .ok (.iload_n 1, 1) := by decide +kernel
theorem d_X_charAt_33 : decode b_X_charAt 33 = .ok (.caload, 1) := by decide +kernel
theorem d_X_charAt_34 : decode b_X_charAt 34 = .ok (.ireturn, 1) := by decide +kernel
theorem d_X_told_0 : decode b_X_told 0 = .ok (.iload_n 1, 1) := by decide +kernel
theorem d_X_told_1 : decode b_X_told 1 = .ok (.tableswitch 51 0 3 #[31, 36, 41, 46], 31) := by decide +kernel
theorem d_X_told_32 : decode b_X_told 32 = .ok (.aload_n 0, 1) := by decide +kernel
theorem d_X_told_33 : decode b_X_told 33 = .ok (.getfield 9, 3) := by decide +kernel
theorem d_X_told_36 : decode b_X_told 36 = .ok (.ireturn, 1) := by decide +kernel
theorem d_X_told_37 : decode b_X_told 37 = .ok (.aload_n 0, 1) := by decide +kernel
theorem d_X_told_38 : decode b_X_told 38 = .ok (.getfield 13, 3) := by decide +kernel
theorem d_X_told_41 : decode b_X_told 41 = .ok (.ireturn, 1) := by decide +kernel
theorem d_X_told_42 : decode b_X_told 42 = .ok (.aload_n 0, 1) := by decide +kernel
theorem d_X_told_43 : decode b_X_told 43 = .ok (.invokevirtual 208, 3) := by decide +kernel
theorem d_X_told_46 : decode b_X_told 46 = .ok (.ireturn, 1) := by decide +kernel
theorem d_X_told_47 : decode b_X_told 47 = .ok (.aload_n 0, 1) := by decide +kernel
theorem d_X_told_48 : decode b_X_told 48 = .ok (.invokevirtual 212, 3) := by decide +kernel
theorem d_X_told_51 : decode b_X_told 51 = .ok (.ireturn, 1) := by decide +kernel
theorem d_X_told_52 : decode b_X_told 52 = .ok (.iconst (-1), 1) := by decide +kernel
theorem d_X_told_53 : decode b_X_told 53 = .ok (.ireturn, 1) := by decide +kernel
theorem d_X_clear_0 : decode b_X_clear 0 = .ok (.aload_n 0, 1) := by decide +kernel
theorem d_X_clear_1 : decode b_X_clear 1 = .ok (.iconst 0, 1) := by decide +kernel
theorem d_X_clear_2 : decode b_X_clear 2 = .ok (.putfield 9, 3) := by decide +kernel
theorem d_X_clear_5 : decode b_X_clear 5 = .ok (.aload_n 0, 1) := by decide +kernel
theorem d_X_clear_6 : decode b_X_clear 6 = .ok (.iconst 0, 1) := by decide +kernel
theorem d_X_clear_7 : decode b_X_clear 7 = .ok (.putfield 13, 3) := by decide +kernel
theorem d_X_clear_10 : decode b_X_clear 10 = .ok (.aload_n 0, 1) := by decide +kernel
theorem d_X_clear_11 : decode b_X_clear 11 = .ok (.invokevirtual 184, 3) := by decide +kernel
theorem d_X_clear_14 : decode b_X_clear 14 = .ok (.aload_n 0, 1) := by decide +kernel
theorem d_X_clear_15 : decode b_X_clear 15 = .ok (.getfield 57, 3) := by decide +kernel
theorem d_X_clear_18 : decode b_X_clear 18 = .ok (.invokevirtual 190, 3) := by decide +kernel
theorem d_X_clear_21 : decode b_X_clear 21 = .ok (.return_, 1) := by decide +kernel
theorem d_X_needCoder_0 : decode b_X_needCoder 0 = .ok (.iload_n 1, 1) := by decide +kernel
theorem d_X_needCoder_1 : decode b_X_needCoder 1 = .ok (.ifCond .lt 11, 3) := by decide +kernel
theorem d_X_needCoder_4 : decode b_X_needCoder 4 = .ok (.iload_n 1, 1) := by decide +kernel
theorem d_X_needCoder_5 : decode b_X_needCoder 5 = .ok (.aload_n 0, 1) := by decide +kernel
theorem d_X_needCoder_6 : decode b_X_needCoder 6 = .ok (.getfield 9, 3) := by decide +kernel
theorem d_X_needCoder_9 : decode b_X_needCoder 9 = .ok (.if_icmp .lt 13, 3) := by decide +kernel
theorem d_X_needCoder_12 : decode b_X_needCoder 12 = .ok (.new 99, 3) := by decide +kernel
theorem d_X_needCoder_15 : decode b_X_needCoder 15 = .ok (.dup, 1) := by decide +kernel
theorem d_X_needCoder_16 : decode b_X_needCoder 16 = .ok (.ldc 215, 2) := by decide +kernel
theorem d_X_needCoder_18 : decode b_X_needCoder 18 = .ok (.invokespecial 103, 3) := by decide +kernel
theorem d_X_needCoder_21 : decode b_X_needCoder 21 = .ok (.athrow, 1) := by decide +kernel
theorem d_X_needCoder_22 : decode b_X_needCoder 22 = .ok (.return_, 1) := by decide +kernel
theorem d_X_needPicture_0 : decode b_X_needPicture 0 = .ok (.iload_n 1, 1) := by decide +kernel
theorem d_X_needPicture_1 : decode b_X_needPicture 1 = .ok (.ifCond .lt 11, 3) := by decide +kernel
theorem d_X_needPicture_4 : decode b_X_needPicture 4 = .ok (.iload_n 1, 1) := by decide +kernel
theorem d_X_needPicture_5 : decode b_X_needPicture 5 = .ok (.aload_n 0, 1) := by decide +kernel
theorem d_X_needPicture_6 : decode b_X_needPicture 6 = .ok (.getfield 13, 3) := by decide +kernel
theorem d_X_needPicture_9 : decode b_X_needPicture 9 = .ok (.if_icmp .lt 13, 3) := by decide +kernel
theorem d_X_needPicture_12 : decode b_X_needPicture 12 = .ok (.new 99, 3) := by decide +kernel
theorem d_X_needPicture_15 : decode b_X_needPicture 15 = .ok (.dup, 1) := by decide +kernel
theorem d_X_needPicture_16 : decode b_X_needPicture 16 = .ok (.ldc 217, 2) := by decide +kernel
theorem d_X_needPicture_18 : decode b_X_needPicture 18 = .ok (.invokespecial 103, 3) := by decide +kernel
theorem d_X_needPicture_21 : decode b_X_needPicture 21 = .ok (.athrow, 1) := by decide +kernel
theorem d_X_needPicture_22 : decode b_X_needPicture 22 = .ok (.return_, 1) := by decide +kernel
theorem d_X_needCounted_0 : decode b_X_needCounted 0 = .ok (.aload_n 0, 1) := by decide +kernel
theorem d_X_needCounted_1 : decode b_X_needCounted 1 = .ok (.iload_n 1, 1) := by decide +kernel
theorem d_X_needCounted_2 : decode b_X_needCounted 2 = .ok (.invokevirtual 117, 3) := by decide +kernel
theorem d_X_needCounted_5 : decode b_X_needCounted 5 = .ok (.ifCond .ne 13, 3) := by decide +kernel
theorem d_X_needCounted_8 : decode b_X_needCounted 8 = .ok (.new 82, 3) := by decide +kernel
theorem d_X_needCounted_11 : decode b_X_needCounted 11 = .ok (.dup, 1) := by decide +kernel
theorem d_X_needCounted_12 : decode b_X_needCounted 12 = .ok (.ldc 219, 2) := by decide +kernel
theorem d_X_needCounted_14 : decode b_X_needCounted 14 = .ok (.invokespecial 86, 3) := by decide +kernel
theorem d_X_needCounted_17 : decode b_X_needCounted 17 = .ok (.athrow, 1) := by decide +kernel
theorem d_X_needCounted_18 : decode b_X_needCounted 18 = .ok (.return_, 1) := by decide +kernel
theorem d_X_pairOf_0 : decode b_X_pairOf 0 = .ok (.aload_n 0, 1) := by decide +kernel
theorem d_X_pairOf_1 : decode b_X_pairOf 1 = .ok (.iload_n 1, 1) := by decide +kernel
theorem d_X_pairOf_2 : decode b_X_pairOf 2 = .ok (.invokevirtual 114, 3) := by decide +kernel
theorem d_X_pairOf_5 : decode b_X_pairOf 5 = .ok (.aload_n 0, 1) := by decide +kernel
theorem d_X_pairOf_6 : decode b_X_pairOf 6 = .ok (.iload_n 2, 1) := by decide +kernel
theorem d_X_pairOf_7 : decode b_X_pairOf 7 = .ok (.invokevirtual 106, 3) := by decide +kernel
theorem d_X_pairOf_10 : decode b_X_pairOf 10 = .ok (.iload_n 1, 1) := by decide +kernel
theorem d_X_pairOf_11 : decode b_X_pairOf 11 = .ok (.bipush 24, 2) := by decide +kernel
theorem d_X_pairOf_13 : decode b_X_pairOf 13 = .ok (.imul, 1) := by decide +kernel
theorem d_X_pairOf_14 : decode b_X_pairOf 14 = .ok (.iload_n 2, 1) := by decide +kernel
theorem d_X_pairOf_15 : decode b_X_pairOf 15 = .ok (.iadd, 1) := by decide +kernel
theorem d_X_pairOf_16 : decode b_X_pairOf 16 = .ok (.ireturn, 1) := by decide +kernel
theorem d_X_isCounted_0 : decode b_X_isCounted 0 = .ok (.aload_n 0, 1) := by decide +kernel
theorem d_X_isCounted_1 : decode b_X_isCounted 1 = .ok (.getfield 16, 3) := by decide +kernel
theorem d_X_isCounted_4 : decode b_X_isCounted 4 = .ok (.iload_n 1, 1) := by decide +kernel
theorem d_X_isCounted_5 : decode b_X_isCounted 5 = .ok (.iaload, 1) := by decide +kernel
theorem d_X_isCounted_6 : decode b_X_isCounted 6 = .ok (.ifCond .le 7, 3) := by decide +kernel
theorem d_X_isCounted_9 : decode b_X_isCounted 9 = .ok (.iconst 1, 1) := by decide +kernel
theorem d_X_isCounted_10 : decode b_X_isCounted 10 = .ok (.goto 4, 3) := by decide +kernel
theorem d_X_isCounted_13 : decode b_X_isCounted 13 = .ok (.iconst 0, 1) := by decide +kernel
theorem d_X_isCounted_14 : decode b_X_isCounted 14 = .ok (.ireturn, 1) := by decide +kernel
theorem d_X_addPoint_0 : decode b_X_addPoint 0 = .ok (.aload_n 0, 1) := by decide +kernel
theorem d_X_addPoint_1 : decode b_X_addPoint 1 = .ok (.getfield 16, 3) := by decide +kernel
theorem d_X_addPoint_4 : decode b_X_addPoint 4 = .ok (.iload_n 1, 1) := by decide +kernel
theorem d_X_addPoint_5 : decode b_X_addPoint 5 = .ok (.iaload, 1) := by decide +kernel
theorem d_X_addPoint_6 : decode b_X_addPoint 6 = .ok (.istore 4, 2) := by decide +kernel
theorem d_X_addPoint_8 : decode b_X_addPoint 8 = .ok (.iload 4, 2) := by decide +kernel
theorem d_X_addPoint_10 : decode b_X_addPoint 10 = .ok (.ifCond .lt 10, 3) := by decide +kernel
theorem d_X_addPoint_13 : decode b_X_addPoint 13 = .ok (.iload 4, 2) := by decide +kernel
theorem d_X_addPoint_15 : decode b_X_addPoint 15 = .ok (.bipush 6, 2) := by decide +kernel
theorem d_X_addPoint_17 : decode b_X_addPoint 17 = .ok (.if_icmp .lt 4, 3) := by decide +kernel
theorem d_X_addPoint_20 : decode b_X_addPoint 20 = .ok (.return_, 1) := by decide +kernel
theorem d_X_addPoint_21 : decode b_X_addPoint 21 = .ok (.iload_n 1, 1) := by decide +kernel
theorem d_X_addPoint_22 : decode b_X_addPoint 22 = .ok (.bipush 6, 2) := by decide +kernel
theorem d_X_addPoint_24 : decode b_X_addPoint 24 = .ok (.imul, 1) := by decide +kernel
theorem d_X_addPoint_25 : decode b_X_addPoint 25 = .ok (.iload 4, 2) := by decide +kernel
theorem d_X_addPoint_27 : decode b_X_addPoint 27 = .ok (.iadd, 1) := by decide +kernel
theorem d_X_addPoint_28 : decode b_X_addPoint 28 = .ok (.istore 5, 2) := by decide +kernel
theorem d_X_addPoint_30 : decode b_X_addPoint 30 = .ok (.aload_n 0, 1) := by decide +kernel
theorem d_X_addPoint_31 : decode b_X_addPoint 31 = .ok (.getfield 23, 3) := by decide +kernel
theorem d_X_addPoint_34 : decode b_X_addPoint 34 = .ok (.iload 5, 2) := by decide +kernel
theorem d_X_addPoint_36 : decode b_X_addPoint 36 = .ok (.iload_n 2, 1) := by decide +kernel
theorem d_X_addPoint_37 : decode b_X_addPoint 37 = .ok (.iastore, 1) := by decide +kernel
theorem d_X_addPoint_38 : decode b_X_addPoint 38 = .ok (.aload_n 0, 1) := by decide +kernel
theorem d_X_addPoint_39 : decode b_X_addPoint 39 = .ok (.getfield 26, 3) := by decide +kernel
theorem d_X_addPoint_42 : decode b_X_addPoint 42 = .ok (.iload 5, 2) := by decide +kernel
theorem d_X_addPoint_44 : decode b_X_addPoint 44 = .ok (.iload_n 3, 1) := by decide +kernel
theorem d_X_addPoint_45 : decode b_X_addPoint 45 = .ok (.iastore, 1) := by decide +kernel
theorem d_X_addPoint_46 : decode b_X_addPoint 46 = .ok (.iload 4, 2) := by decide +kernel
theorem d_X_addPoint_48 : decode b_X_addPoint 48 = .ok (.ifCond .eq 13, 3) := by decide +kernel
theorem d_X_addPoint_51 : decode b_X_addPoint 51 = .ok (.iload_n 2, 1) := by decide +kernel
theorem d_X_addPoint_52 : decode b_X_addPoint 52 = .ok (.aload_n 0, 1) := by decide +kernel
theorem d_X_addPoint_53 : decode b_X_addPoint 53 = .ok (.getfield 20, 3) := by decide +kernel
theorem d_X_addPoint_56 : decode b_X_addPoint 56 = .ok (.iload_n 1, 1) := by decide +kernel
theorem d_X_addPoint_57 : decode b_X_addPoint 57 = .ok (.iaload, 1) := by decide +kernel
theorem d_X_addPoint_58 : decode b_X_addPoint 58 = .ok (.if_icmp .ge 10, 3) := by decide +kernel
theorem d_X_addPoint_61 : decode b_X_addPoint 61 = .ok (.aload_n 0, 1) := by decide +kernel
theorem d_X_addPoint_62 : decode b_X_addPoint 62 = .ok (.getfield 20, 3) := by decide +kernel
theorem d_X_addPoint_65 : decode b_X_addPoint 65 = .ok (.iload_n 1, 1) := by decide +kernel
theorem d_X_addPoint_66 : decode b_X_addPoint 66 = .ok (.iload_n 2, 1) := by decide +kernel
theorem d_X_addPoint_67 : decode b_X_addPoint 67 = .ok (.iastore, 1) := by decide +kernel
theorem d_X_addPoint_68 : decode b_X_addPoint 68 = .ok (.aload_n 0, 1) := by decide +kernel
theorem d_X_addPoint_69 : decode b_X_addPoint 69 = .ok (.getfield 16, 3) := by decide +kernel
theorem d_X_addPoint_72 : decode b_X_addPoint 72 = .ok (.iload_n 1, 1) := by decide +kernel
theorem d_X_addPoint_73 : decode b_X_addPoint 73 = .ok (.iload 4, 2) := by decide +kernel
theorem d_X_addPoint_75 : decode b_X_addPoint 75 = .ok (.iconst 1, 1) := by decide +kernel
theorem d_X_addPoint_76 : decode b_X_addPoint 76 = .ok (.iadd, 1) := by decide +kernel
theorem d_X_addPoint_77 : decode b_X_addPoint 77 = .ok (.iastore, 1) := by decide +kernel
theorem d_X_addPoint_78 : decode b_X_addPoint 78 = .ok (.return_, 1) := by decide +kernel
theorem d_X_markFailed_0 : decode b_X_markFailed 0 = .ok (.aload_n 0, 1) := by decide +kernel
theorem d_X_markFailed_1 : decode b_X_markFailed 1 = .ok (.getfield 32, 3) := by decide +kernel
theorem d_X_markFailed_4 : decode b_X_markFailed 4 = .ok (.sipush 192, 3) := by decide +kernel
theorem d_X_markFailed_7 : decode b_X_markFailed 7 = .ok (.if_icmp .ge 30, 3) := by decide +kernel
theorem d_X_markFailed_10 : decode b_X_markFailed 10 = .ok (.aload_n 0, 1) := by decide +kernel
theorem d_X_markFailed_11 : decode b_X_markFailed 11 = .ok (.getfield 16, 3) := by decide +kernel
theorem d_X_markFailed_14 : decode b_X_markFailed 14 = .ok (.iload_n 1, 1) := by decide +kernel
theorem d_X_markFailed_15 : decode b_X_markFailed 15 = .ok (.iconst (-1), 1) := by decide +kernel
theorem d_X_markFailed_16 : decode b_X_markFailed 16 = .ok (.iastore, 1) := by decide +kernel
theorem d_X_markFailed_17 : decode b_X_markFailed 17 = .ok (.aload_n 0, 1) := by decide +kernel
theorem d_X_markFailed_18 : decode b_X_markFailed 18 = .ok (.getfield 29, 3) := by decide +kernel
theorem d_X_markFailed_21 : decode b_X_markFailed 21 = .ok (.aload_n 0, 1) := by decide +kernel
theorem d_X_markFailed_22 : decode b_X_markFailed 22 = .ok (.getfield 32, 3) := by decide +kernel
theorem d_X_markFailed_25 : decode b_X_markFailed 25 = .ok (.iload_n 1, 1) := by decide +kernel
theorem d_X_markFailed_26 : decode b_X_markFailed 26 = .ok (.iastore, 1) := by decide +kernel
theorem d_X_markFailed_27 : decode b_X_markFailed 27 = .ok (.aload_n 0, 1) := by decide +kernel
theorem d_X_markFailed_28 : decode b_X_markFailed 28 = .ok (.dup, 1) := by decide +kernel
theorem d_X_markFailed_29 : decode b_X_markFailed 29 = .ok (.getfield 32, 3) := by decide +kernel
theorem d_X_markFailed_32 : decode b_X_markFailed 32 = .ok (.iconst 1, 1) := by decide +kernel
theorem d_X_markFailed_33 : decode b_X_markFailed 33 = .ok (.iadd, 1) := by decide +kernel
theorem d_X_markFailed_34 : decode b_X_markFailed 34 = .ok (.putfield 32, 3) := by decide +kernel
theorem d_X_markFailed_37 : decode b_X_markFailed 37 = .ok (.return_, 1) := by decide +kernel
theorem d_X_emptyPairs_0 : decode b_X_emptyPairs 0 = .ok (.iconst 0, 1) := by decide +kernel
theorem d_X_emptyPairs_1 : decode b_X_emptyPairs 1 = .ok (.istore_n 1, 1) := by decide +kernel
theorem d_X_emptyPairs_2 : decode b_X_emptyPairs 2 = .ok (.iload_n 1, 1) := by decide +kernel
theorem d_X_emptyPairs_3 : decode b_X_emptyPairs 3 = .ok (.sipush 192, 3) := by decide +kernel
theorem d_X_emptyPairs_6 : decode b_X_emptyPairs 6 = .ok (.if_icmp .ge 16, 3) := by decide +kernel
theorem d_X_emptyPairs_9 : decode b_X_emptyPairs 9 = .ok (.aload_n 0, 1) := by decide +kernel
theorem d_X_emptyPairs_10 : decode b_X_emptyPairs 10 = .ok (.getfield 16, 3) := by decide +kernel
theorem d_X_emptyPairs_13 : decode b_X_emptyPairs 13 = .ok (.iload_n 1, 1) := by decide +kernel
theorem d_X_emptyPairs_14 : decode b_X_emptyPairs 14 = .ok (.iconst 0, 1) := by decide +kernel
theorem d_X_emptyPairs_15 : decode b_X_emptyPairs 15 = .ok (.iastore, 1) := by decide +kernel
theorem d_X_emptyPairs_16 : decode b_X_emptyPairs 16 = .ok (.iinc 1 1, 3) := by decide +kernel
theorem d_X_emptyPairs_19 : decode b_X_emptyPairs 19 = .ok (.goto (-17), 3) := by decide +kernel
theorem d_X_emptyPairs_22 : decode b_X_emptyPairs 22 = .ok (.aload_n 0, 1) := by decide +kernel
theorem d_X_emptyPairs_23 : decode b_X_emptyPairs 23 = .ok (.iconst 0, 1) := by decide +kernel
theorem d_X_emptyPairs_24 : decode b_X_emptyPairs 24 = .ok (.putfield 32, 3) := by decide +kernel
theorem d_X_emptyPairs_27 : decode b_X_emptyPairs 27 = .ok (.return_, 1) := by decide +kernel
theorem d_X_fillPair_0 : decode b_X_fillPair 0 = .ok (.aload_n 0, 1) := by decide +kernel
theorem d_X_fillPair_1 : decode b_X_fillPair 1 = .ok (.getfield 50, 3) := by decide +kernel
theorem d_X_fillPair_4 : decode b_X_fillPair 4 = .ok (.bipush 9, 2) := by decide +kernel
theorem d_X_fillPair_6 : decode b_X_fillPair 6 = .ok (.invokevirtual 221, 3) := by decide +kernel
theorem d_X_fillPair_9 : decode b_X_fillPair 9 = .ok (.bipush 8, 2) := by decide +kernel
theorem d_X_fillPair_11 : decode b_X_fillPair 11 = .ok (.if_icmp .ne 10, 3) := by decide +kernel
theorem d_X_fillPair_14 : decode b_X_fillPair 14 = .ok (.aload_n 0, 1) := by decide +kernel
theorem d_X_fillPair_15 : decode b_X_fillPair 15 = .ok (.iload_n 1, 1) := by decide +kernel
theorem d_X_fillPair_16 : decode b_X_fillPair 16 = .ok (.invokevirtual 95, 3) := by decide +kernel
theorem d_X_fillPair_19 : decode b_X_fillPair 19 = .ok (.iconst 0, 1) := by decide +kernel
theorem d_X_fillPair_20 : decode b_X_fillPair 20 = .ok (.ireturn, 1) := by decide +kernel
theorem d_X_fillPair_21 : decode b_X_fillPair 21 = .ok (.aload_n 0, 1) := by decide +kernel
theorem d_X_fillPair_22 : decode b_X_fillPair 22 = .ok (.getfield 50, 3) := by decide +kernel
theorem d_X_fillPair_25 : decode b_X_fillPair 25 = .ok (.bipush 7, 2) := by decide +kernel
theorem d_X_fillPair_27 : decode b_X_fillPair 27 = .ok (.invokevirtual 221, 3) := by decide +kernel
theorem d_X_fillPair_30 : decode b_X_fillPair 30 = .ok (.istore_n 2, 1) := by decide +kernel
theorem d_X_fillPair_31 : decode b_X_fillPair 31 = .ok (.iconst 0, 1) := by decide +kernel
theorem d_X_fillPair_32 : decode b_X_fillPair 32 = .ok (.istore_n 3, 1) := by decide +kernel
theorem d_X_fillPair_33 : decode b_X_fillPair 33 = .ok (.iload_n 3, 1) := by decide +kernel
theorem d_X_fillPair_34 : decode b_X_fillPair 34 = .ok (.iload_n 2, 1) := by decide +kernel
theorem d_X_fillPair_35 : decode b_X_fillPair 35 = .ok (.if_icmp .ge 44, 3) := by decide +kernel
theorem d_X_fillPair_38 : decode b_X_fillPair 38 = .ok (.aload_n 0, 1) := by decide +kernel
theorem d_X_fillPair_39 : decode b_X_fillPair 39 = .ok (.getfield 50, 3) := by decide +kernel
theorem d_X_fillPair_42 : decode b_X_fillPair 42 = .ok (.sipush 1000, 3) := by decide +kernel
theorem d_X_fillPair_45 : decode b_X_fillPair 45 = .ok (.invokevirtual 221, 3) := by decide +kernel
theorem d_X_fillPair_48 : decode b_X_fillPair 48 = .ok (.iconst 1, 1) := by decide +kernel
theorem d_X_fillPair_49 : decode b_X_fillPair 49 = .ok (.iadd, 1) := by decide +kernel
theorem d_X_fillPair_50 : decode b_X_fillPair 50 = .ok (.istore 4, 2) := by decide +kernel
theorem d_X_fillPair_52 : decode b_X_fillPair 52 = .ok (.aload_n 0, 1) := by decide +kernel
theorem d_X_fillPair_53 : decode b_X_fillPair 53 = .ok (.getfield 50, 3) := by decide +kernel
theorem d_X_fillPair_56 : decode b_X_fillPair 56 = .ok (.sipush 1000, 3) := by decide +kernel
theorem d_X_fillPair_59 : decode b_X_fillPair 59 = .ok (.invokevirtual 221, 3) := by decide +kernel
theorem d_X_fillPair_62 : decode b_X_fillPair 62 = .ok (.istore 5, 2) := by decide +kernel
theorem d_X_fillPair_64 : decode b_X_fillPair 64 = .ok (.aload_n 0, 1) := by decide +kernel
theorem d_X_fillPair_65 : decode b_X_fillPair 65 = .ok (.iload_n 1, 1) := by decide +kernel
theorem d_X_fillPair_66 : decode b_X_fillPair 66 = .ok (.iload 4, 2) := by decide +kernel
theorem d_X_fillPair_68 : decode b_X_fillPair 68 = .ok (.iload 5, 2) := by decide +kernel
theorem d_X_fillPair_70 : decode b_X_fillPair 70 = .ok (.invokevirtual 89, 3) := by decide +kernel
theorem d_X_fillPair_73 : decode b_X_fillPair 73 = .ok (.iinc 3 1, 3) := by decide +kernel
theorem d_X_fillPair_76 : decode b_X_fillPair 76 = .ok (.goto (-43), 3) := by decide +kernel
theorem d_X_fillPair_79 : decode b_X_fillPair 79 = .ok (.iload_n 2, 1) := by decide +kernel
theorem d_X_fillPair_80 : decode b_X_fillPair 80 = .ok (.ireturn, 1) := by decide +kernel
theorem d_X_allPoints_0 : decode b_X_allPoints 0 = .ok (.iconst 0, 1) := by decide +kernel
theorem d_X_allPoints_1 : decode b_X_allPoints 1 = .ok (.istore_n 1, 1) := by decide +kernel
theorem d_X_allPoints_2 : decode b_X_allPoints 2 = .ok (.iconst 0, 1) := by decide +kernel
theorem d_X_allPoints_3 : decode b_X_allPoints 3 = .ok (.istore_n 2, 1) := by decide +kernel
theorem d_X_allPoints_4 : decode b_X_allPoints 4 = .ok (.iload_n 2, 1) := by decide +kernel
theorem d_X_allPoints_5 : decode b_X_allPoints 5 = .ok (.sipush 192, 3) := by decide +kernel
theorem d_X_allPoints_8 : decode b_X_allPoints 8 = .ok (.if_icmp .ge 26, 3) := by decide +kernel
theorem d_X_allPoints_11 : decode b_X_allPoints 11 = .ok (.aload_n 0, 1) := by decide +kernel
theorem d_X_allPoints_12 : decode b_X_allPoints 12 = .ok (.iload_n 2, 1) := by decide +kernel
theorem d_X_allPoints_13 : decode b_X_allPoints 13 = .ok (.invokevirtual 224, 3) := by decide +kernel
theorem d_X_allPoints_16 : decode b_X_allPoints 16 = .ok (.ifCond .eq 12, 3) := by decide +kernel
theorem d_X_allPoints_19 : decode b_X_allPoints 19 = .ok (.iload_n 1, 1) := by decide +kernel
theorem d_X_allPoints_20 : decode b_X_allPoints 20 = .ok (.aload_n 0, 1) := by decide +kernel
theorem d_X_allPoints_21 : decode b_X_allPoints 21 = .ok (.getfield 16, 3) := by decide +kernel
theorem d_X_allPoints_24 : decode b_X_allPoints 24 = .ok (.iload_n 2, 1) := by decide +kernel
theorem d_X_allPoints_25 : decode b_X_allPoints 25 = .ok (.iaload, 1) := by decide +kernel
theorem d_X_allPoints_26 : decode b_X_allPoints 26 = .ok (.iadd, 1) := by decide +kernel
theorem d_X_allPoints_27 : decode b_X_allPoints 27 = .ok (.istore_n 1, 1) := by decide +kernel
theorem d_X_allPoints_28 : decode b_X_allPoints 28 = .ok (.iinc 2 1, 3) := by decide +kernel
theorem d_X_allPoints_31 : decode b_X_allPoints 31 = .ok (.goto (-27), 3) := by decide +kernel
theorem d_X_allPoints_34 : decode b_X_allPoints 34 = .ok (.iload_n 1, 1) := by decide +kernel
theorem d_X_allPoints_35 : decode b_X_allPoints 35 = .ok (.ireturn, 1) := by decide +kernel
theorem d_X_allCounted_0 : decode b_X_allCounted 0 = .ok (.iconst 0, 1) := by decide +kernel
theorem d_X_allCounted_1 : decode b_X_allCounted 1 = .ok (.istore_n 1, 1) := by decide +kernel
theorem d_X_allCounted_2 : decode b_X_allCounted 2 = .ok (.iconst 0, 1) := by decide +kernel
theorem d_X_allCounted_3 : decode b_X_allCounted 3 = .ok (.istore_n 2, 1) := by decide +kernel
theorem d_X_allCounted_4 : decode b_X_allCounted 4 = .ok (.iload_n 2, 1) := by decide +kernel
theorem d_X_allCounted_5 : decode b_X_allCounted 5 = .ok (.aload_n 0, 1) := by decide +kernel
theorem d_X_allCounted_6 : decode b_X_allCounted 6 = .ok (.getfield 9, 3) := by decide +kernel
theorem d_X_allCounted_9 : decode b_X_allCounted 9 = .ok (.if_icmp .ge 17, 3) := by decide +kernel
theorem d_X_allCounted_12 : decode b_X_allCounted 12 = .ok (.iload_n 1, 1) := by decide +kernel
theorem d_X_allCounted_13 : decode b_X_allCounted 13 = .ok (.aload_n 0, 1) := by decide +kernel
theorem d_X_allCounted_14 : decode b_X_allCounted 14 = .ok (.iload_n 2, 1) := by decide +kernel
theorem d_X_allCounted_15 : decode b_X_allCounted 15 = .ok (.invokevirtual 117, 3) := by decide +kernel
theorem d_X_allCounted_18 : decode b_X_allCounted 18 = .ok (.iadd, 1) := by decide +kernel
theorem d_X_allCounted_19 : decode b_X_allCounted 19 = .ok (.istore_n 1, 1) := by decide +kernel
theorem d_X_allCounted_20 : decode b_X_allCounted 20 = .ok (.iinc 2 1, 3) := by decide +kernel
theorem d_X_allCounted_23 : decode b_X_allCounted 23 = .ok (.goto (-19), 3) := by decide +kernel
theorem d_X_allCounted_26 : decode b_X_allCounted 26 = .ok (.iload_n 1, 1) := by decide +kernel
theorem d_X_allCounted_27 : decode b_X_allCounted 27 = .ok (.ireturn, 1) := by decide +kernel
theorem d_X_leastBytesWithin_0 : decode b_X_leastBytesWithin 0 = .ok (.iconst (-1), 1) := by decide +kernel
theorem d_X_leastBytesWithin_1 : decode b_X_leastBytesWithin 1 = .ok (.istore_n 3, 1) := by decide +kernel
theorem d_X_leastBytesWithin_2 : decode b_X_leastBytesWithin 2 = .ok (.iload_n 1, 1) := by decide +kernel
theorem d_X_leastBytesWithin_3 : decode b_X_leastBytesWithin 3 = .ok (.bipush 6, 2) := by decide +kernel
theorem d_X_leastBytesWithin_5 : decode b_X_leastBytesWithin 5 = .ok (.imul, 1) := by decide +kernel
theorem d_X_leastBytesWithin_6 : decode b_X_leastBytesWithin 6 = .ok (.istore 4, 2) := by decide +kernel
theorem d_X_leastBytesWithin_8 : decode b_X_leastBytesWithin 8 = .ok (.iconst 0, 1) := by decide +kernel
theorem d_X_leastBytesWithin_9 : decode b_X_leastBytesWithin 9 = .ok (.istore 5, 2) := by decide +kernel
theorem d_X_leastBytesWithin_11 : decode b_X_leastBytesWithin 11 = .ok (.iload 5, 2) := by decide +kernel
theorem d_X_leastBytesWithin_13 : decode b_X_leastBytesWithin 13 = .ok (.aload_n 0, 1) := by decide +kernel
theorem d_X_leastBytesWithin_14 : decode b_X_leastBytesWithin 14 = .ok (.getfield 16, 3) := by decide +kernel
theorem d_X_leastBytesWithin_17 : decode b_X_leastBytesWithin 17 = .ok (.iload_n 1, 1) := by decide +kernel
theorem d_X_leastBytesWithin_18 : decode b_X_leastBytesWithin 18 = .ok (.iaload, 1) := by decide +kernel
theorem d_X_leastBytesWithin_19 : decode b_X_leastBytesWithin 19 = .ok (.if_icmp .ge 49, 3) := by decide +kernel
theorem d_X_leastBytesWithin_22 : decode b_X_leastBytesWithin 22 = .ok (.aload_n 0, 1) := by decide +kernel
theorem d_X_leastBytesWithin_23 : decode b_X_leastBytesWithin 23 = .ok (.getfield 23, 3) := by decide +kernel
theorem d_X_leastBytesWithin_26 : decode b_X_leastBytesWithin 26 = .ok (.iload 4, 2) := by decide +kernel
theorem d_X_leastBytesWithin_28 : decode b_X_leastBytesWithin 28 = .ok (.iload 5, 2) := by decide +kernel
theorem d_X_leastBytesWithin_30 : decode b_X_leastBytesWithin 30 = .ok (.iadd, 1) := by decide +kernel
theorem d_X_leastBytesWithin_31 : decode b_X_leastBytesWithin 31 = .ok (.iaload, 1) := by decide +kernel
theorem d_X_leastBytesWithin_32 : decode b_X_leastBytesWithin 32 = .ok (.istore 6, 2) := by decide +kernel
theorem d_X_leastBytesWithin_34 : decode b_X_leastBytesWithin 34 = .ok (.aload_n 0, 1) := by decide +kernel
theorem d_X_leastBytesWithin_35 : decode b_X_leastBytesWithin 35 = .ok (.getfield 26, 3) := by decide +kernel
theorem d_X_leastBytesWithin_38 : decode b_X_leastBytesWithin 38 = .ok (.iload 4, 2) := by decide +kernel
theorem d_X_leastBytesWithin_40 : decode b_X_leastBytesWithin 40 = .ok (.iload 5, 2) := by decide +kernel
theorem d_X_leastBytesWithin_42 : decode b_X_leastBytesWithin 42 = .ok (.iadd, 1) := by decide +kernel
theorem d_X_leastBytesWithin_43 : decode b_X_leastBytesWithin 43 = .ok (.iaload, 1) := by decide +kernel
theorem d_X_leastBytesWithin_44 : decode b_X_leastBytesWithin 44 = .ok (.iload_n 2, 1) := by decide +kernel
theorem d_X_leastBytesWithin_45 : decode b_X_leastBytesWithin 45 = .ok (.if_icmp .gt 17, 3) := by decide +kernel
theorem d_X_leastBytesWithin_48 : decode b_X_leastBytesWithin 48 = .ok (.iload_n 3, 1) := by decide +kernel
theorem d_X_leastBytesWithin_49 : decode b_X_leastBytesWithin 49 = .ok (.iconst (-1), 1) := by decide +kernel
theorem d_X_leastBytesWithin_50 : decode b_X_leastBytesWithin 50 = .ok (.if_icmp .eq 9, 3) := by decide +kernel
theorem d_X_leastBytesWithin_53 : decode b_X_leastBytesWithin 53 = .ok (.iload 6, 2) := by decide +kernel
theorem d_X_leastBytesWithin_55 : decode b_X_leastBytesWithin 55 = .ok (.iload_n 3, 1) := by decide +kernel
theorem d_X_leastBytesWithin_56 : decode b_X_leastBytesWithin 56 = .ok (.if_icmp .ge 6, 3) := by decide +kernel
theorem d_X_leastBytesWithin_59 : decode b_X_leastBytesWithin 59 = .ok (.iload 6, 2) := by decide +kernel
theorem d_X_leastBytesWithin_61 : decode b_X_leastBytesWithin 61 = .ok (.istore_n 3, 1) := by decide +kernel
theorem d_X_leastBytesWithin_62 : decode b_X_leastBytesWithin 62 = .ok (.iinc 5 1, 3) := by decide +kernel
theorem d_X_leastBytesWithin_65 : decode b_X_leastBytesWithin 65 = .ok (.goto (-54), 3) := by decide +kernel
theorem d_X_leastBytesWithin_68 : decode b_X_leastBytesWithin 68 = .ok (.iload_n 3, 1) := by decide +kernel
theorem d_X_leastBytesWithin_69 : decode b_X_leastBytesWithin 69 = .ok (.ireturn, 1) := by decide +kernel
theorem d_X_countedOf_0 : decode b_X_countedOf 0 = .ok (.iconst 0, 1) := by decide +kernel
theorem d_X_countedOf_1 : decode b_X_countedOf 1 = .ok (.istore_n 2, 1) := by decide +kernel
theorem d_X_countedOf_2 : decode b_X_countedOf 2 = .ok (.iconst 0, 1) := by decide +kernel
theorem d_X_countedOf_3 : decode b_X_countedOf 3 = .ok (.istore_n 3, 1) := by decide +kernel
theorem d_X_countedOf_4 : decode b_X_countedOf 4 = .ok (.iload_n 3, 1) := by decide +kernel
theorem d_X_countedOf_5 : decode b_X_countedOf 5 = .ok (.aload_n 0, 1) := by decide +kernel
theorem d_X_countedOf_6 : decode b_X_countedOf 6 = .ok (.getfield 13, 3) := by decide +kernel
theorem d_X_countedOf_9 : decode b_X_countedOf 9 = .ok (.if_icmp .ge 25, 3) := by decide +kernel
theorem d_X_countedOf_12 : decode b_X_countedOf 12 = .ok (.aload_n 0, 1) := by decide +kernel
theorem d_X_countedOf_13 : decode b_X_countedOf 13 = .ok (.iload_n 1, 1) := by decide +kernel
theorem d_X_countedOf_14 : decode b_X_countedOf 14 = .ok (.bipush 24, 2) := by decide +kernel
theorem d_X_countedOf_16 : decode b_X_countedOf 16 = .ok (.imul, 1) := by decide +kernel
theorem d_X_countedOf_17 : decode b_X_countedOf 17 = .ok (.iload_n 3, 1) := by decide +kernel
theorem d_X_countedOf_18 : decode b_X_countedOf 18 = .ok (.iadd, 1) := by decide +kernel
theorem d_X_countedOf_19 : decode b_X_countedOf 19 = .ok (.invokevirtual 224, 3) := by decide +kernel
theorem d_X_countedOf_22 : decode b_X_countedOf 22 = .ok (.ifCond .eq 6, 3) := by decide +kernel
theorem d_X_countedOf_25 : decode b_X_countedOf 25 = .ok (.iinc 2 1, 3) := by decide +kernel
theorem d_X_countedOf_28 : decode b_X_countedOf 28 = .ok (.iinc 3 1, 3) := by decide +kernel
theorem d_X_countedOf_31 : decode b_X_countedOf 31 = .ok (.goto (-27), 3) := by decide +kernel
theorem d_X_countedOf_34 : decode b_X_countedOf 34 = .ok (.iload_n 2, 1) := by decide +kernel
theorem d_X_countedOf_35 : decode b_X_countedOf 35 = .ok (.ireturn, 1) := by decide +kernel
theorem d_X_sumOf_0 : decode b_X_sumOf 0 = .ok (.lconst 0, 1) := by decide +kernel
theorem d_X_sumOf_1 : decode b_X_sumOf 1 = .ok (.lstore_n 2, 1) := by decide +kernel
theorem d_X_sumOf_2 : decode b_X_sumOf 2 = .ok (.iconst 0, 1) := by decide +kernel
theorem d_X_sumOf_3 : decode b_X_sumOf 3 = .ok (.istore 4, 2) := by decide +kernel
theorem d_X_sumOf_5 : decode b_X_sumOf 5 = .ok (.iload 4, 2) := by decide +kernel
theorem d_X_sumOf_7 : decode b_X_sumOf 7 = .ok (.aload_n 0, 1) := by decide +kernel
theorem d_X_sumOf_8 : decode b_X_sumOf 8 = .ok (.getfield 13, 3) := by decide +kernel
theorem d_X_sumOf_11 : decode b_X_sumOf 11 = .ok (.if_icmp .ge 38, 3) := by decide +kernel
theorem d_X_sumOf_14 : decode b_X_sumOf 14 = .ok (.iload_n 1, 1) := by decide +kernel
theorem d_X_sumOf_15 : decode b_X_sumOf 15 = .ok (.bipush 24, 2) := by decide +kernel
theorem d_X_sumOf_17 : decode b_X_sumOf 17 = .ok (.imul, 1) := by decide +kernel
theorem d_X_sumOf_18 : decode b_X_sumOf 18 = .ok (.iload 4, 2) := by decide +kernel
theorem d_X_sumOf_20 : decode b_X_sumOf 20 = .ok (.iadd, 1) := by decide +kernel
theorem d_X_sumOf_21 : decode b_X_sumOf 21 = .ok (.istore 5, 2) := by decide +kernel
theorem d_X_sumOf_23 : decode b_X_sumOf 23 = .ok (.aload_n 0, 1) := by decide +kernel
theorem d_X_sumOf_24 : decode b_X_sumOf 24 = .ok (.iload 5, 2) := by decide +kernel
theorem d_X_sumOf_26 : decode b_X_sumOf 26 = .ok (.invokevirtual 224, 3) := by decide +kernel
theorem d_X_sumOf_29 : decode b_X_sumOf 29 = .ok (.ifCond .eq 14, 3) := by decide +kernel
theorem d_X_sumOf_32 : decode b_X_sumOf 32 = .ok (.lload_n 2, 1) := by decide +kernel
theorem d_X_sumOf_33 : decode b_X_sumOf 33 = .ok (.aload_n 0, 1) := by decide +kernel
theorem d_X_sumOf_34 : decode b_X_sumOf 34 = .ok (.getfield 20, 3) := by decide +kernel
theorem d_X_sumOf_37 : decode b_X_sumOf 37 = .ok (.iload 5, 2) := by decide +kernel
theorem d_X_sumOf_39 : decode b_X_sumOf 39 = .ok (.iaload, 1) := by decide +kernel
theorem d_X_sumOf_40 : decode b_X_sumOf 40 = .ok (.i2l, 1) := by decide +kernel
theorem d_X_sumOf_41 : decode b_X_sumOf 41 = .ok (.ladd, 1) := by decide +kernel
theorem d_X_sumOf_42 : decode b_X_sumOf 42 = .ok (.lstore_n 2, 1) := by decide +kernel
theorem d_X_sumOf_43 : decode b_X_sumOf 43 = .ok (.iinc 4 1, 3) := by decide +kernel
theorem d_X_sumOf_46 : decode b_X_sumOf 46 = .ok (.goto (-41), 3) := by decide +kernel
theorem d_X_sumOf_49 : decode b_X_sumOf 49 = .ok (.lload_n 2, 1) := by decide +kernel
theorem d_X_sumOf_50 : decode b_X_sumOf 50 = .ok (.lreturn, 1) := by decide +kernel
theorem d_X_rankOf_0 : decode b_X_rankOf 0 = .ok (.aload_n 0, 1) := by decide +kernel
theorem d_X_rankOf_1 : decode b_X_rankOf 1 = .ok (.iload_n 1, 1) := by decide +kernel
theorem d_X_rankOf_2 : decode b_X_rankOf 2 = .ok (.invokevirtual 123, 3) := by decide +kernel
theorem d_X_rankOf_5 : decode b_X_rankOf 5 = .ok (.lstore_n 2, 1) := by decide +kernel
theorem d_X_rankOf_6 : decode b_X_rankOf 6 = .ok (.aload_n 0, 1) := by decide +kernel
theorem d_X_rankOf_7 : decode b_X_rankOf 7 = .ok (.iload_n 1, 1) := by decide +kernel
theorem d_X_rankOf_8 : decode b_X_rankOf 8 = .ok (.invokevirtual 117, 3) := by decide +kernel
theorem d_X_rankOf_11 : decode b_X_rankOf 11 = .ok (.i2l, 1) := by decide +kernel
theorem d_X_rankOf_12 : decode b_X_rankOf 12 = .ok (.lstore 4, 2) := by decide +kernel
theorem d_X_rankOf_14 : decode b_X_rankOf 14 = .ok (.iconst 0, 1) := by decide +kernel
theorem d_X_rankOf_15 : decode b_X_rankOf 15 = .ok (.istore 6, 2) := by decide +kernel
theorem d_X_rankOf_17 : decode b_X_rankOf 17 = .ok (.iconst 0, 1) := by decide +kernel
theorem d_X_rankOf_18 : decode b_X_rankOf 18 = .ok (.istore 7, 2) := by decide +kernel
theorem d_X_rankOf_20 : decode b_X_rankOf 20 = .ok (.iconst 0, 1) := by decide +kernel
theorem d_X_rankOf_21 : decode b_X_rankOf 21 = .ok (.istore 8, 2) := by decide +kernel
theorem d_X_rankOf_23 : decode b_X_rankOf 23 = .ok (.iload 8, 2) := by decide +kernel
theorem d_X_rankOf_25 : decode b_X_rankOf 25 = .ok (.aload_n 0, 1) := by decide +kernel
theorem d_X_rankOf_26 : decode b_X_rankOf 26 = .ok (.getfield 9, 3) := by decide +kernel
theorem d_X_rankOf_29 : decode b_X_rankOf 29 = .ok (.if_icmp .ge 62, 3) := by decide +kernel
theorem d_X_rankOf_32 : decode b_X_rankOf 32 = .ok (.aload_n 0, 1) := by decide +kernel
theorem d_X_rankOf_33 : decode b_X_rankOf 33 = .ok (.iload 8, 2) := by decide +kernel
theorem d_X_rankOf_35 : decode b_X_rankOf 35 = .ok (.invokevirtual 117, 3) := by decide +kernel
theorem d_X_rankOf_38 : decode b_X_rankOf 38 = .ok (.i2l, 1) := by decide +kernel
theorem d_X_rankOf_39 : decode b_X_rankOf 39 = .ok (.lstore 9, 2) := by decide +kernel
theorem d_X_rankOf_41 : decode b_X_rankOf 41 = .ok (.lload 9, 2) := by decide +kernel
theorem d_X_rankOf_43 : decode b_X_rankOf 43 = .ok (.lconst 0, 1) := by decide +kernel
theorem d_X_rankOf_44 : decode b_X_rankOf 44 = .ok (.lcmp, 1) := by decide +kernel
theorem d_X_rankOf_45 : decode b_X_rankOf 45 = .ok (.ifCond .le 40, 3) := by decide +kernel
theorem d_X_rankOf_48 : decode b_X_rankOf 48 = .ok (.aload_n 0, 1) := by decide +kernel
theorem d_X_rankOf_49 : decode b_X_rankOf 49 = .ok (.iload 8, 2) := by decide +kernel
theorem d_X_rankOf_51 : decode b_X_rankOf 51 = .ok (.invokevirtual 123, 3) := by decide +kernel
theorem d_X_rankOf_54 : decode b_X_rankOf 54 = .ok (.lload 4, 2) := by decide +kernel
theorem d_X_rankOf_56 : decode b_X_rankOf 56 = .ok (.lmul, 1) := by decide +kernel
theorem d_X_rankOf_57 : decode b_X_rankOf 57 = .ok (.lload_n 2, 1) := by decide +kernel
theorem d_X_rankOf_58 : decode b_X_rankOf 58 = .ok (.lload 9, 2) := by decide +kernel
theorem d_X_rankOf_60 : decode b_X_rankOf 60 = .ok (.lmul, 1) := by decide +kernel
theorem d_X_rankOf_61 : decode b_X_rankOf 61 = .ok (.invokestatic 228, 3) := by decide +kernel
theorem d_X_rankOf_64 : decode b_X_rankOf 64 = .ok (.istore 11, 2) := by decide +kernel
theorem d_X_rankOf_66 : decode b_X_rankOf 66 = .ok (.iload 11, 2) := by decide +kernel
theorem d_X_rankOf_68 : decode b_X_rankOf 68 = .ok (.ifCond .ge 9, 3) := by decide +kernel
theorem d_X_rankOf_71 : decode b_X_rankOf 71 = .ok (.iinc 6 1, 3) := by decide +kernel
theorem d_X_rankOf_74 : decode b_X_rankOf 74 = .ok (.goto 11, 3) := by decide +kernel
theorem d_X_rankOf_77 : decode b_X_rankOf 77 = .ok (.iload 11, 2) := by decide +kernel
theorem d_X_rankOf_79 : decode b_X_rankOf 79 = .ok (.ifCond .ne 6, 3) := by decide +kernel
theorem d_X_rankOf_82 : decode b_X_rankOf 82 = .ok (.iinc 7 1, 3) := by decide +kernel
theorem d_X_rankOf_85 : decode b_X_rankOf 85 = .ok (.iinc 8 1, 3) := by decide +kernel
theorem d_X_rankOf_88 : decode b_X_rankOf 88 = .ok (.goto (-65), 3) := by decide +kernel
theorem d_X_rankOf_91 : decode b_X_rankOf 91 = .ok (.iconst 2, 1) := by decide +kernel
theorem d_X_rankOf_92 : decode b_X_rankOf 92 = .ok (.iload 6, 2) := by decide +kernel
theorem d_X_rankOf_94 : decode b_X_rankOf 94 = .ok (.imul, 1) := by decide +kernel
theorem d_X_rankOf_95 : decode b_X_rankOf 95 = .ok (.iload 7, 2) := by decide +kernel
theorem d_X_rankOf_97 : decode b_X_rankOf 97 = .ok (.iadd, 1) := by decide +kernel
theorem d_X_rankOf_98 : decode b_X_rankOf 98 = .ok (.iconst 1, 1) := by decide +kernel
theorem d_X_rankOf_99 : decode b_X_rankOf 99 = .ok (.iadd, 1) := by decide +kernel
theorem d_X_rankOf_100 : decode b_X_rankOf 100 = .ok (.ireturn, 1) := by decide +kernel
theorem d_X_layHull_0 : decode b_X_layHull 0 = .ok (.aload_n 0, 1) := by decide +kernel
theorem d_X_layHull_1 : decode b_X_layHull 1 = .ok (.iconst 0, 1) := by decide +kernel
theorem d_X_layHull_2 : decode b_X_layHull 2 = .ok (.putfield 38, 3) := by decide +kernel
theorem d_X_layHull_5 : decode b_X_layHull 5 = .ok (.aload_n 0, 1) := by decide +kernel
theorem d_X_layHull_6 : decode b_X_layHull 6 = .ok (.iload_n 1, 1) := by decide +kernel
theorem d_X_layHull_7 : decode b_X_layHull 7 = .ok (.invokevirtual 234, 3) := by decide +kernel
theorem d_X_layHull_10 : decode b_X_layHull 10 = .ok (.istore_n 2, 1) := by decide +kernel
theorem d_X_layHull_11 : decode b_X_layHull 11 = .ok (.aload_n 0, 1) := by decide +kernel
theorem d_X_layHull_12 : decode b_X_layHull 12 = .ok (.getfield 38, 3) := by decide +kernel
theorem d_X_layHull_15 : decode b_X_layHull 15 = .ok (.bipush 6, 2) := by decide +kernel
theorem d_X_layHull_17 : decode b_X_layHull 17 = .ok (.if_icmp .ge 38, 3) := by decide +kernel
theorem d_X_layHull_20 : decode b_X_layHull 20 = .ok (.iload_n 2, 1) := by decide +kernel
theorem d_X_layHull_21 : decode b_X_layHull 21 = .ok (.iconst (-1), 1) := by decide +kernel
theorem d_X_layHull_22 : decode b_X_layHull 22 = .ok (.if_icmp .eq 33, 3) := by decide +kernel
theorem d_X_layHull_25 : decode b_X_layHull 25 = .ok (.aload_n 0, 1) := by decide +kernel
theorem d_X_layHull_26 : decode b_X_layHull 26 = .ok (.getfield 35, 3) := by decide +kernel
theorem d_X_layHull_29 : decode b_X_layHull 29 = .ok (.aload_n 0, 1) := by decide +kernel
theorem d_X_layHull_30 : decode b_X_layHull 30 = .ok (.getfield 38, 3) := by decide +kernel
theorem d_X_layHull_33 : decode b_X_layHull 33 = .ok (.iload_n 2, 1) := by decide +kernel
theorem d_X_layHull_34 : decode b_X_layHull 34 = .ok (.iastore, 1) := by decide +kernel
theorem d_X_layHull_35 : decode b_X_layHull 35 = .ok (.aload_n 0, 1) := by decide +kernel
theorem d_X_layHull_36 : decode b_X_layHull 36 = .ok (.dup, 1) := by decide +kernel
theorem d_X_layHull_37 : decode b_X_layHull 37 = .ok (.getfield 38, 3) := by decide +kernel
theorem d_X_layHull_40 : decode b_X_layHull 40 = .ok (.iconst 1, 1) := by decide +kernel
theorem d_X_layHull_41 : decode b_X_layHull 41 = .ok (.iadd, 1) := by decide +kernel
theorem d_X_layHull_42 : decode b_X_layHull 42 = .ok (.putfield 38, 3) := by decide +kernel
theorem d_X_layHull_45 : decode b_X_layHull 45 = .ok (.aload_n 0, 1) := by decide +kernel
theorem d_X_layHull_46 : decode b_X_layHull 46 = .ok (.iload_n 1, 1) := by decide +kernel
theorem d_X_layHull_47 : decode b_X_layHull 47 = .ok (.iload_n 2, 1) := by decide +kernel
theorem d_X_layHull_48 : decode b_X_layHull 48 = .ok (.invokevirtual 237, 3) := by decide +kernel
theorem d_X_layHull_51 : decode b_X_layHull 51 = .ok (.istore_n 2, 1) := by decide +kernel
theorem d_X_layHull_52 : decode b_X_layHull 52 = .ok (.goto (-41), 3) := by decide +kernel
theorem d_X_layHull_55 : decode b_X_layHull 55 = .ok (.return_, 1) := by decide +kernel
theorem d_X_firstOfRow_0 : decode b_X_firstOfRow 0 = .ok (.iconst (-1), 1) := by decide +kernel
theorem d_X_firstOfRow_1 : decode b_X_firstOfRow 1 = .ok (.istore_n 2, 1) := by decide +kernel
theorem d_X_firstOfRow_2 : decode b_X_firstOfRow 2 = .ok (.iload_n 1, 1) := by decide +kernel
theorem d_X_firstOfRow_3 : decode b_X_firstOfRow 3 = .ok (.bipush 6, 2) := by decide +kernel
theorem d_X_firstOfRow_5 : decode b_X_firstOfRow 5 = .ok (.imul, 1) := by decide +kernel
theorem d_X_firstOfRow_6 : decode b_X_firstOfRow 6 = .ok (.istore_n 3, 1) := by decide +kernel
theorem d_X_firstOfRow_7 : decode b_X_firstOfRow 7 = .ok (.iload_n 3, 1) := by decide +kernel
theorem d_X_firstOfRow_8 : decode b_X_firstOfRow 8 = .ok (.istore 4, 2) := by decide +kernel
theorem d_X_firstOfRow_10 : decode b_X_firstOfRow 10 = .ok (.iload 4, 2) := by decide +kernel
theorem d_X_firstOfRow_12 : decode b_X_firstOfRow 12 = .ok (.iload_n 3, 1) := by decide +kernel
theorem d_X_firstOfRow_13 : decode b_X_firstOfRow 13 = .ok (.aload_n 0, 1) := by decide +kernel
theorem d_X_firstOfRow_14 : decode b_X_firstOfRow 14 = .ok (.getfield 16, 3) := by decide +kernel
theorem d_X_firstOfRow_17 : decode b_X_firstOfRow 17 = .ok (.iload_n 1, 1) := by decide +kernel
theorem d_X_firstOfRow_18 : decode b_X_firstOfRow 18 = .ok (.iaload, 1) := by decide +kernel
theorem d_X_firstOfRow_19 : decode b_X_firstOfRow 19 = .ok (.iadd, 1) := by decide +kernel
theorem d_X_firstOfRow_20 : decode b_X_firstOfRow 20 = .ok (.if_icmp .ge 27, 3) := by decide +kernel
theorem d_X_firstOfRow_23 : decode b_X_firstOfRow 23 = .ok (.iload_n 2, 1) := by decide +kernel
theorem d_X_firstOfRow_24 : decode b_X_firstOfRow 24 = .ok (.iconst (-1), 1) := by decide +kernel
theorem d_X_firstOfRow_25 : decode b_X_firstOfRow 25 = .ok (.if_icmp .eq 13, 3) := by decide +kernel
theorem d_X_firstOfRow_28 : decode b_X_firstOfRow 28 = .ok (.aload_n 0, 1) := by decide +kernel
theorem d_X_firstOfRow_29 : decode b_X_firstOfRow 29 = .ok (.iload 4, 2) := by decide +kernel
theorem d_X_firstOfRow_31 : decode b_X_firstOfRow 31 = .ok (.iload_n 2, 1) := by decide +kernel
theorem d_X_firstOfRow_32 : decode b_X_firstOfRow 32 = .ok (.invokevirtual 240, 3) := by decide +kernel
theorem d_X_firstOfRow_35 : decode b_X_firstOfRow 35 = .ok (.ifCond .eq 6, 3) := by decide +kernel
theorem d_X_firstOfRow_38 : decode b_X_firstOfRow 38 = .ok (.iload 4, 2) := by decide +kernel
theorem d_X_firstOfRow_40 : decode b_X_firstOfRow 40 = .ok (.istore_n 2, 1) := by decide +kernel
theorem d_X_firstOfRow_41 : decode b_X_firstOfRow 41 = .ok (.iinc 4 1, 3) := by decide +kernel
theorem d_X_firstOfRow_44 : decode b_X_firstOfRow 44 = .ok (.goto (-34), 3) := by decide +kernel
theorem d_X_firstOfRow_47 : decode b_X_firstOfRow 47 = .ok (.iload_n 2, 1) := by decide +kernel
theorem d_X_firstOfRow_48 : decode b_X_firstOfRow 48 = .ok (.ireturn, 1) := by decide +kernel
theorem d_X_isBefore_0 : decode b_X_isBefore 0 = .ok (.aload_n 0, 1) := by decide +kernel
theorem d_X_isBefore_1 : decode b_X_isBefore 1 = .ok (.getfield 23, 3) := by decide +kernel
theorem d_X_isBefore_4 : decode b_X_isBefore 4 = .ok (.iload_n 1, 1) := by decide +kernel
theorem d_X_isBefore_5 : decode b_X_isBefore 5 = .ok (.iaload, 1) := by decide +kernel
theorem d_X_isBefore_6 : decode b_X_isBefore 6 = .ok (.aload_n 0, 1) := by decide +kernel
theorem d_X_isBefore_7 : decode b_X_isBefore 7 = .ok (.getfield 23, 3) := by decide +kernel
theorem d_X_isBefore_10 : decode b_X_isBefore 10 = .ok (.iload_n 2, 1) := by decide +kernel
theorem d_X_isBefore_11 : decode b_X_isBefore 11 = .ok (.iaload, 1) := by decide +kernel
theorem d_X_isBefore_12 : decode b_X_isBefore 12 = .ok (.if_icmp .eq 24, 3) := by decide +kernel
theorem d_X_isBefore_15 : decode b_X_isBefore 15 = .ok (.aload_n 0, 1) := by decide +kernel
theorem d_X_isBefore_16 : decode b_X_isBefore 16 = .ok (.getfield 23, 3) := by decide +kernel
theorem d_X_isBefore_19 : decode b_X_isBefore 19 = .ok (.iload_n 1, 1) := by decide +kernel
theorem d_X_isBefore_20 : decode b_X_isBefore 20 = .ok (.iaload, 1) := by decide +kernel
theorem d_X_isBefore_21 : decode b_X_isBefore 21 = .ok (.aload_n 0, 1) := by decide +kernel
theorem d_X_isBefore_22 : decode b_X_isBefore 22 = .ok (.getfield 23, 3) := by decide +kernel
theorem d_X_isBefore_25 : decode b_X_isBefore 25 = .ok (.iload_n 2, 1) := by decide +kernel
theorem d_X_isBefore_26 : decode b_X_isBefore 26 = .ok (.iaload, 1) := by decide +kernel
theorem d_X_isBefore_27 : decode b_X_isBefore 27 = .ok (.if_icmp .ge 7, 3) := by decide +kernel
theorem d_X_isBefore_30 : decode b_X_isBefore 30 = .ok (.iconst 1, 1) := by decide +kernel
theorem d_X_isBefore_31 : decode b_X_isBefore 31 = .ok (.goto 4, 3) := by decide +kernel
theorem d_X_isBefore_34 : decode b_X_isBefore 34 = .ok (.iconst 0, 1) := by decide +kernel
theorem d_X_isBefore_35 : decode b_X_isBefore 35 = .ok (.ireturn, 1) := by decide +kernel
theorem d_X_isBefore_36 : decode b_X_isBefore 36 = .ok (.aload_n 0, 1) := by decide +kernel
theorem d_X_isBefore_37 : decode b_X_isBefore 37 = .ok (.getfield 26, 3) := by decide +kernel
theorem d_X_isBefore_40 : decode b_X_isBefore 40 = .ok (.iload_n 1, 1) := by decide +kernel
theorem d_X_isBefore_41 : decode b_X_isBefore 41 = .ok (.iaload, 1) := by decide +kernel
theorem d_X_isBefore_42 : decode b_X_isBefore 42 = .ok (.aload_n 0, 1) := by decide +kernel
theorem d_X_isBefore_43 : decode b_X_isBefore 43 = .ok (.getfield 26, 3) := by decide +kernel
theorem d_X_isBefore_46 : decode b_X_isBefore 46 = .ok (.iload_n 2, 1) := by decide +kernel
theorem d_X_isBefore_47 : decode b_X_isBefore 47 = .ok (.iaload, 1) := by decide +kernel
theorem d_X_isBefore_48 : decode b_X_isBefore 48 = .ok (.if_icmp .ge 7, 3) := by decide +kernel
theorem d_X_isBefore_51 : decode b_X_isBefore 51 = .ok (.iconst 1, 1) := by decide +kernel
theorem d_X_isBefore_52 : decode b_X_isBefore 52 = .ok (.goto 4, 3) := by decide +kernel
theorem d_X_isBefore_55 : decode b_X_isBefore 55 = .ok (.iconst 0, 1) := by decide +kernel
theorem d_X_isBefore_56 : decode b_X_isBefore 56 = .ok (.ireturn, 1) := by decide +kernel
theorem d_X_steepestFrom_0 : decode b_X_steepestFrom 0 = .ok (.iconst (-1), 1) := by decide +kernel
theorem d_X_steepestFrom_1 : decode b_X_steepestFrom 1 = .ok (.istore_n 3, 1) := by decide +kernel
theorem d_X_steepestFrom_2 : decode b_X_steepestFrom 2 = .ok (.iload_n 1, 1) := by decide +kernel
theorem d_X_steepestFrom_3 : decode b_X_steepestFrom 3 = .ok (.bipush 6, 2) := by decide +kernel
theorem d_X_steepestFrom_5 : decode b_X_steepestFrom 5 = .ok (.imul, 1) := by decide +kernel
theorem d_X_steepestFrom_6 : decode b_X_steepestFrom 6 = .ok (.istore 4, 2) := by decide +kernel
theorem d_X_steepestFrom_8 : decode b_X_steepestFrom 8 = .ok (.iload 4, 2) := by decide +kernel
theorem d_X_steepestFrom_10 : decode b_X_steepestFrom 10 = .ok (.istore 5, 2) := by decide +kernel
theorem d_X_steepestFrom_12 : decode b_X_steepestFrom 12 = .ok (.iload 5, 2) := by decide +kernel
theorem d_X_steepestFrom_14 : decode b_X_steepestFrom 14 = .ok (.iload 4, 2) := by decide +kernel
theorem d_X_steepestFrom_16 : decode b_X_steepestFrom 16 = .ok (.aload_n 0, 1) := by decide +kernel
theorem d_X_steepestFrom_17 : decode b_X_steepestFrom 17 = .ok (.getfield 16, 3) := by decide +kernel
theorem d_X_steepestFrom_20 : decode b_X_steepestFrom 20 = .ok (.iload_n 1, 1) := by decide +kernel
theorem d_X_steepestFrom_21 : decode b_X_steepestFrom 21 = .ok (.iaload, 1) := by decide +kernel
theorem d_X_steepestFrom_22 : decode b_X_steepestFrom 22 = .ok (.iadd, 1) := by decide +kernel
theorem d_X_steepestFrom_23 : decode b_X_steepestFrom 23 = .ok (.if_icmp .ge 52, 3) := by decide +kernel
theorem d_X_steepestFrom_26 : decode b_X_steepestFrom 26 = .ok (.aload_n 0, 1) := by decide +kernel
theorem d_X_steepestFrom_27 : decode b_X_steepestFrom 27 = .ok (.iload_n 2, 1) := by decide +kernel
theorem d_X_steepestFrom_28 : decode b_X_steepestFrom 28 = .ok (.iload 5, 2) := by decide +kernel
theorem d_X_steepestFrom_30 : decode b_X_steepestFrom 30 = .ok (.invokevirtual 150, 3) := by decide +kernel
theorem d_X_steepestFrom_33 : decode b_X_steepestFrom 33 = .ok (.lconst 0, 1) := by decide +kernel
theorem d_X_steepestFrom_34 : decode b_X_steepestFrom 34 = .ok (.lcmp, 1) := by decide +kernel
theorem d_X_steepestFrom_35 : decode b_X_steepestFrom 35 = .ok (.ifCond .le 34, 3) := by decide +kernel
theorem d_X_steepestFrom_38 : decode b_X_steepestFrom 38 = .ok (.aload_n 0, 1) := by decide +kernel
theorem d_X_steepestFrom_39 : decode b_X_steepestFrom 39 = .ok (.iload_n 2, 1) := by decide +kernel
theorem d_X_steepestFrom_40 : decode b_X_steepestFrom 40 = .ok (.iload 5, 2) := by decide +kernel
theorem d_X_steepestFrom_42 : decode b_X_steepestFrom 42 = .ok (.invokevirtual 146, 3) := by decide +kernel
theorem d_X_steepestFrom_45 : decode b_X_steepestFrom 45 = .ok (.lconst 0, 1) := by decide +kernel
theorem d_X_steepestFrom_46 : decode b_X_steepestFrom 46 = .ok (.lcmp, 1) := by decide +kernel
theorem d_X_steepestFrom_47 : decode b_X_steepestFrom 47 = .ok (.ifCond .le 22, 3) := by decide +kernel
theorem d_X_steepestFrom_50 : decode b_X_steepestFrom 50 = .ok (.iload_n 3, 1) := by decide +kernel
theorem d_X_steepestFrom_51 : decode b_X_steepestFrom 51 = .ok (.iconst (-1), 1) := by decide +kernel
theorem d_X_steepestFrom_52 : decode b_X_steepestFrom 52 = .ok (.if_icmp .eq 14, 3) := by decide +kernel
theorem d_X_steepestFrom_55 : decode b_X_steepestFrom 55 = .ok (.aload_n 0, 1) := by decide +kernel
theorem d_X_steepestFrom_56 : decode b_X_steepestFrom 56 = .ok (.iload_n 2, 1) := by decide +kernel
theorem d_X_steepestFrom_57 : decode b_X_steepestFrom 57 = .ok (.iload 5, 2) := by decide +kernel
theorem d_X_steepestFrom_59 : decode b_X_steepestFrom 59 = .ok (.iload_n 3, 1) := by decide +kernel
theorem d_X_steepestFrom_60 : decode b_X_steepestFrom 60 = .ok (.invokevirtual 244, 3) := by decide +kernel
theorem d_X_steepestFrom_63 : decode b_X_steepestFrom 63 = .ok (.ifCond .eq 6, 3) := by decide +kernel
theorem d_X_steepestFrom_66 : decode b_X_steepestFrom 66 = .ok (.iload 5, 2) := by decide +kernel
theorem d_X_steepestFrom_68 : decode b_X_steepestFrom 68 = .ok (.istore_n 3, 1) := by decide +kernel
theorem d_X_steepestFrom_69 : decode b_X_steepestFrom 69 = .ok (.iinc 5 1, 3) := by decide +kernel
theorem d_X_steepestFrom_72 : decode b_X_steepestFrom 72 = .ok (.goto (-60), 3) := by decide +kernel
theorem d_X_steepestFrom_75 : decode b_X_steepestFrom 75 = .ok (.iload_n 3, 1) := by decide +kernel
theorem d_X_steepestFrom_76 : decode b_X_steepestFrom 76 = .ok (.ireturn, 1) := by decide +kernel
theorem d_X_isBetterStep_0 : decode b_X_isBetterStep 0 = .ok (.aload_n 0, 1) := by decide +kernel
theorem d_X_isBetterStep_1 : decode b_X_isBetterStep 1 = .ok (.iload_n 1, 1) := by decide +kernel
theorem d_X_isBetterStep_2 : decode b_X_isBetterStep 2 = .ok (.iload_n 2, 1) := by decide +kernel
theorem d_X_isBetterStep_3 : decode b_X_isBetterStep 3 = .ok (.invokevirtual 150, 3) := by decide +kernel
theorem d_X_isBetterStep_6 : decode b_X_isBetterStep 6 = .ok (.lstore 4, 2) := by decide +kernel
theorem d_X_isBetterStep_8 : decode b_X_isBetterStep 8 = .ok (.aload_n 0, 1) := by decide +kernel
theorem d_X_isBetterStep_9 : decode b_X_isBetterStep 9 = .ok (.iload_n 1, 1) := by decide +kernel
theorem d_X_isBetterStep_10 : decode b_X_isBetterStep 10 = .ok (.iload_n 3, 1) := by decide +kernel
theorem d_X_isBetterStep_11 : decode b_X_isBetterStep 11 = .ok (.invokevirtual 150, 3) := by decide +kernel
theorem d_X_isBetterStep_14 : decode b_X_isBetterStep 14 = .ok (.lstore 6, 2) := by decide +kernel
theorem d_X_isBetterStep_16 : decode b_X_isBetterStep 16 = .ok (.aload_n 0, 1) := by decide +kernel
theorem d_X_isBetterStep_17 : decode b_X_isBetterStep 17 = .ok (.iload_n 1, 1) := by decide +kernel
theorem d_X_isBetterStep_18 : decode b_X_isBetterStep 18 = .ok (.iload_n 2, 1) := by decide +kernel
theorem d_X_isBetterStep_19 : decode b_X_isBetterStep 19 = .ok (.invokevirtual 146, 3) := by decide +kernel
theorem d_X_isBetterStep_22 : decode b_X_isBetterStep 22 = .ok (.lload 6, 2) := by decide +kernel
theorem d_X_isBetterStep_24 : decode b_X_isBetterStep 24 = .ok (.lmul, 1) := by decide +kernel
theorem d_X_isBetterStep_25 : decode b_X_isBetterStep 25 = .ok (.aload_n 0, 1) := by decide +kernel
theorem d_X_isBetterStep_26 : decode b_X_isBetterStep 26 = .ok (.iload_n 1, 1) := by decide +kernel
theorem d_X_isBetterStep_27 : decode b_X_isBetterStep 27 = .ok (.iload_n 3, 1) := by decide +kernel
theorem d_X_isBetterStep_28 : decode b_X_isBetterStep 28 = .ok (.invokevirtual 146, 3) := by decide +kernel
theorem d_X_isBetterStep_31 : decode b_X_isBetterStep 31 = .ok (.lload 4, 2) := by decide +kernel
theorem d_X_isBetterStep_33 : decode b_X_isBetterStep 33 = .ok (.lmul, 1) := by decide +kernel
theorem d_X_isBetterStep_34 : decode b_X_isBetterStep 34 = .ok (.invokestatic 228, 3) := by decide +kernel
theorem d_X_isBetterStep_37 : decode b_X_isBetterStep 37 = .ok (.istore 8, 2) := by decide +kernel
theorem d_X_isBetterStep_39 : decode b_X_isBetterStep 39 = .ok (.iload 8, 2) := by decide +kernel
theorem d_X_isBetterStep_41 : decode b_X_isBetterStep 41 = .ok (.ifCond .gt 16, 3) := by decide +kernel
theorem d_X_isBetterStep_44 : decode b_X_isBetterStep 44 = .ok (.iload 8, 2) := by decide +kernel
theorem d_X_isBetterStep_46 : decode b_X_isBetterStep 46 = .ok (.ifCond .ne 15, 3) := by decide +kernel
theorem d_X_isBetterStep_49 : decode b_X_isBetterStep 49 = .ok (.lload 4, 2) := by decide +kernel
theorem d_X_isBetterStep_51 : decode b_X_isBetterStep 51 = .ok (.lload 6, 2) := by decide +kernel
theorem d_X_isBetterStep_53 : decode b_X_isBetterStep 53 = .ok (.lcmp, 1) := by decide +kernel
theorem d_X_isBetterStep_54 : decode b_X_isBetterStep 54 = .ok (.ifCond .le 7, 3) := by decide +kernel
theorem d_X_isBetterStep_57 : decode b_X_isBetterStep 57 = .ok (.iconst 1, 1) := by decide +kernel
theorem d_X_isBetterStep_58 : decode b_X_isBetterStep 58 = .ok (.goto 4, 3) := by decide +kernel
theorem d_X_isBetterStep_61 : decode b_X_isBetterStep 61 = .ok (.iconst 0, 1) := by decide +kernel
theorem d_X_isBetterStep_62 : decode b_X_isBetterStep 62 = .ok (.ireturn, 1) := by decide +kernel
theorem d_X_fallTo_0 : decode b_X_fallTo 0 = .ok (.aload_n 0, 1) := by decide +kernel
theorem d_X_fallTo_1 : decode b_X_fallTo 1 = .ok (.getfield 26, 3) := by decide +kernel
theorem d_X_fallTo_4 : decode b_X_fallTo 4 = .ok (.iload_n 1, 1) := by decide +kernel
theorem d_X_fallTo_5 : decode b_X_fallTo 5 = .ok (.iaload, 1) := by decide +kernel
theorem d_X_fallTo_6 : decode b_X_fallTo 6 = .ok (.i2l, 1) := by decide +kernel
theorem d_X_fallTo_7 : decode b_X_fallTo 7 = .ok (.aload_n 0, 1) := by decide +kernel
theorem d_X_fallTo_8 : decode b_X_fallTo 8 = .ok (.getfield 26, 3) := by decide +kernel
theorem d_X_fallTo_11 : decode b_X_fallTo 11 = .ok (.iload_n 2, 1) := by decide +kernel
theorem d_X_fallTo_12 : decode b_X_fallTo 12 = .ok (.iaload, 1) := by decide +kernel
theorem d_X_fallTo_13 : decode b_X_fallTo 13 = .ok (.i2l, 1) := by decide +kernel
theorem d_X_fallTo_14 : decode b_X_fallTo 14 = .ok (.lsub, 1) := by decide +kernel
theorem d_X_fallTo_15 : decode b_X_fallTo 15 = .ok (.lreturn, 1) := by decide +kernel
theorem d_X_growthTo_0 : decode b_X_growthTo 0 = .ok (.aload_n 0, 1) := by decide +kernel
theorem d_X_growthTo_1 : decode b_X_growthTo 1 = .ok (.getfield 23, 3) := by decide +kernel
theorem d_X_growthTo_4 : decode b_X_growthTo 4 = .ok (.iload_n 2, 1) := by decide +kernel
theorem d_X_growthTo_5 : decode b_X_growthTo 5 = .ok (.iaload, 1) := by decide +kernel
theorem d_X_growthTo_6 : decode b_X_growthTo 6 = .ok (.i2l, 1) := by decide +kernel
theorem d_X_growthTo_7 : decode b_X_growthTo 7 = .ok (.aload_n 0, 1) := by decide +kernel
theorem d_X_growthTo_8 : decode b_X_growthTo 8 = .ok (.getfield 23, 3) := by decide +kernel
theorem d_X_growthTo_11 : decode b_X_growthTo 11 = .ok (.iload_n 1, 1) := by decide +kernel
theorem d_X_growthTo_12 : decode b_X_growthTo 12 = .ok (.iaload, 1) := by decide +kernel
theorem d_X_growthTo_13 : decode b_X_growthTo 13 = .ok (.i2l, 1) := by decide +kernel
theorem d_X_growthTo_14 : decode b_X_growthTo 14 = .ok (.lsub, 1) := by decide +kernel
theorem d_X_growthTo_15 : decode b_X_growthTo 15 = .ok (.lreturn, 1) := by decide +kernel
theorem d_X_layLeads_0 : decode b_X_layLeads 0 = .ok (.aload_n 0, 1) := by decide +kernel
theorem d_X_layLeads_1 : decode b_X_layLeads 1 = .ok (.iconst 0, 1) := by decide +kernel
theorem d_X_layLeads_2 : decode b_X_layLeads 2 = .ok (.putfield 44, 3) := by decide +kernel
theorem d_X_layLeads_5 : decode b_X_layLeads 5 = .ok (.iconst 0, 1) := by decide +kernel
theorem d_X_layLeads_6 : decode b_X_layLeads 6 = .ok (.istore_n 3, 1) := by decide +kernel
theorem d_X_layLeads_7 : decode b_X_layLeads 7 = .ok (.iload_n 3, 1) := by decide +kernel
theorem d_X_layLeads_8 : decode b_X_layLeads 8 = .ok (.aload_n 0, 1) := by decide +kernel
theorem d_X_layLeads_9 : decode b_X_layLeads 9 = .ok (.getfield 13, 3) := by decide +kernel
theorem d_X_layLeads_12 : decode b_X_layLeads 12 = .ok (.if_icmp .ge 77, 3) := by decide +kernel
theorem d_X_layLeads_15 : decode b_X_layLeads 15 = .ok (.iload_n 1, 1) := by decide +kernel
theorem d_X_layLeads_16 : decode b_X_layLeads 16 = .ok (.bipush 24, 2) := by decide +kernel
theorem d_X_layLeads_18 : decode b_X_layLeads 18 = .ok (.imul, 1) := by decide +kernel
theorem d_X_layLeads_19 : decode b_X_layLeads 19 = .ok (.iload_n 3, 1) := by decide +kernel
theorem d_X_layLeads_20 : decode b_X_layLeads 20 = .ok (.iadd, 1) := by decide +kernel
theorem d_X_layLeads_21 : decode b_X_layLeads 21 = .ok (.istore 4, 2) := by decide +kernel
theorem d_X_layLeads_23 : decode b_X_layLeads 23 = .ok (.iload_n 2, 1) := by decide +kernel
theorem d_X_layLeads_24 : decode b_X_layLeads 24 = .ok (.bipush 24, 2) := by decide +kernel
theorem d_X_layLeads_26 : decode b_X_layLeads 26 = .ok (.imul, 1) := by decide +kernel
theorem d_X_layLeads_27 : decode b_X_layLeads 27 = .ok (.iload_n 3, 1) := by decide +kernel
theorem d_X_layLeads_28 : decode b_X_layLeads 28 = .ok (.iadd, 1) := by decide +kernel
theorem d_X_layLeads_29 : decode b_X_layLeads 29 = .ok (.istore 5, 2) := by decide +kernel
theorem d_X_layLeads_31 : decode b_X_layLeads 31 = .ok (.aload_n 0, 1) := by decide +kernel
theorem d_X_layLeads_32 : decode b_X_layLeads 32 = .ok (.iload 4, 2) := by decide +kernel
theorem d_X_layLeads_34 : decode b_X_layLeads 34 = .ok (.invokevirtual 224, 3) := by decide +kernel
theorem d_X_layLeads_37 : decode b_X_layLeads 37 = .ok (.ifCond .eq 46, 3) := by decide +kernel
theorem d_X_layLeads_40 : decode b_X_layLeads 40 = .ok (.aload_n 0, 1) := by decide +kernel
theorem d_X_layLeads_41 : decode b_X_layLeads 41 = .ok (.iload 5, 2) := by decide +kernel
theorem d_X_layLeads_43 : decode b_X_layLeads 43 = .ok (.invokevirtual 224, 3) := by decide +kernel
theorem d_X_layLeads_46 : decode b_X_layLeads 46 = .ok (.ifCond .eq 37, 3) := by decide +kernel
theorem d_X_layLeads_49 : decode b_X_layLeads 49 = .ok (.aload_n 0, 1) := by decide +kernel
theorem d_X_layLeads_50 : decode b_X_layLeads 50 = .ok (.getfield 41, 3) := by decide +kernel
theorem d_X_layLeads_53 : decode b_X_layLeads 53 = .ok (.aload_n 0, 1) := by decide +kernel
theorem d_X_layLeads_54 : decode b_X_layLeads 54 = .ok (.getfield 44, 3) := by decide +kernel
theorem d_X_layLeads_57 : decode b_X_layLeads 57 = .ok (.aload_n 0, 1) := by decide +kernel
theorem d_X_layLeads_58 : decode b_X_layLeads 58 = .ok (.getfield 20, 3) := by decide +kernel
theorem d_X_layLeads_61 : decode b_X_layLeads 61 = .ok (.iload 4, 2) := by decide +kernel
theorem d_X_layLeads_63 : decode b_X_layLeads 63 = .ok (.iaload, 1) := by decide +kernel
theorem d_X_layLeads_64 : decode b_X_layLeads 64 = .ok (.aload_n 0, 1) := by decide +kernel
theorem d_X_layLeads_65 : decode b_X_layLeads 65 = .ok (.getfield 20, 3) := by decide +kernel
theorem d_X_layLeads_68 : decode b_X_layLeads 68 = .ok (.iload 5, 2) := by decide +kernel
theorem d_X_layLeads_70 : decode b_X_layLeads 70 = .ok (.iaload, 1) := by decide +kernel
theorem d_X_layLeads_71 : decode b_X_layLeads 71 = .ok (.isub, 1) := by decide +kernel
theorem d_X_layLeads_72 : decode b_X_layLeads 72 = .ok (.iastore, 1) := by decide +kernel
theorem d_X_layLeads_73 : decode b_X_layLeads 73 = .ok (.aload_n 0, 1) := by decide +kernel
theorem d_X_layLeads_74 : decode b_X_layLeads 74 = .ok (.dup, 1) := by decide +kernel
theorem d_X_layLeads_75 : decode b_X_layLeads 75 = .ok (.getfield 44, 3) := by decide +kernel
theorem d_X_layLeads_78 : decode b_X_layLeads 78 = .ok (.iconst 1, 1) := by decide +kernel
theorem d_X_layLeads_79 : decode b_X_layLeads 79 = .ok (.iadd, 1) := by decide +kernel
theorem d_X_layLeads_80 : decode b_X_layLeads 80 = .ok (.putfield 44, 3) := by decide +kernel
theorem d_X_layLeads_83 : decode b_X_layLeads 83 = .ok (.iinc 3 1, 3) := by decide +kernel
theorem d_X_layLeads_86 : decode b_X_layLeads 86 = .ok (.goto (-79), 3) := by decide +kernel
theorem d_X_layLeads_89 : decode b_X_layLeads 89 = .ok (.return_, 1) := by decide +kernel
theorem d_X_countLeads_0 : decode b_X_countLeads 0 = .ok (.iconst 0, 1) := by decide +kernel
theorem d_X_countLeads_1 : decode b_X_countLeads 1 = .ok (.istore_n 2, 1) := by decide +kernel
theorem d_X_countLeads_2 : decode b_X_countLeads 2 = .ok (.iconst 0, 1) := by decide +kernel
theorem d_X_countLeads_3 : decode b_X_countLeads 3 = .ok (.istore_n 3, 1) := by decide +kernel
theorem d_X_countLeads_4 : decode b_X_countLeads 4 = .ok (.iload_n 3, 1) := by decide +kernel
theorem d_X_countLeads_5 : decode b_X_countLeads 5 = .ok (.aload_n 0, 1) := by decide +kernel
theorem d_X_countLeads_6 : decode b_X_countLeads 6 = .ok (.getfield 44, 3) := by decide +kernel
theorem d_X_countLeads_9 : decode b_X_countLeads 9 = .ok (.if_icmp .ge 37, 3) := by decide +kernel
theorem d_X_countLeads_12 : decode b_X_countLeads 12 = .ok (.iload_n 1, 1) := by decide +kernel
theorem d_X_countLeads_13 : decode b_X_countLeads 13 = .ok (.ifCond .eq 15, 3) := by decide +kernel
theorem d_X_countLeads_16 : decode b_X_countLeads 16 = .ok (.aload_n 0, 1) := by decide +kernel
theorem d_X_countLeads_17 : decode b_X_countLeads 17 = .ok (.getfield 41, 3) := by decide +kernel
theorem d_X_countLeads_20 : decode b_X_countLeads 20 = .ok (.iload_n 3, 1) := by decide +kernel
theorem d_X_countLeads_21 : decode b_X_countLeads 21 = .ok (.iaload, 1) := by decide +kernel
theorem d_X_countLeads_22 : decode b_X_countLeads 22 = .ok (.ifCond .ge 18, 3) := by decide +kernel
theorem d_X_countLeads_25 : decode b_X_countLeads 25 = .ok (.goto 12, 3) := by decide +kernel
theorem d_X_countLeads_28 : decode b_X_countLeads 28 = .ok (.aload_n 0, 1) := by decide +kernel
theorem d_X_countLeads_29 : decode b_X_countLeads 29 = .ok (.getfield 41, 3) := by decide +kernel
theorem d_X_countLeads_32 : decode b_X_countLeads 32 = .ok (.iload_n 3, 1) := by decide +kernel
theorem d_X_countLeads_33 : decode b_X_countLeads 33 = .ok (.iaload, 1) := by decide +kernel
theorem d_X_countLeads_34 : decode b_X_countLeads 34 = .ok (.ifCond .le 6, 3) := by decide +kernel
theorem d_X_countLeads_37 : decode b_X_countLeads 37 = .ok (.iinc 2 1, 3) := by decide +kernel
theorem d_X_countLeads_40 : decode b_X_countLeads 40 = .ok (.iinc 3 1, 3) := by decide +kernel
theorem d_X_countLeads_43 : decode b_X_countLeads 43 = .ok (.goto (-39), 3) := by decide +kernel
theorem d_X_countLeads_46 : decode b_X_countLeads 46 = .ok (.iload_n 2, 1) := by decide +kernel
theorem d_X_countLeads_47 : decode b_X_countLeads 47 = .ok (.ireturn, 1) := by decide +kernel
theorem d_X_drawnLead_0 : decode b_X_drawnLead 0 = .ok (.lconst 0, 1) := by decide +kernel
theorem d_X_drawnLead_1 : decode b_X_drawnLead 1 = .ok (.lstore_n 1, 1) := by decide +kernel
theorem d_X_drawnLead_2 : decode b_X_drawnLead 2 = .ok (.iconst 0, 1) := by decide +kernel
theorem d_X_drawnLead_3 : decode b_X_drawnLead 3 = .ok (.istore_n 3, 1) := by decide +kernel
theorem d_X_drawnLead_4 : decode b_X_drawnLead 4 = .ok (.iload_n 3, 1) := by decide +kernel
theorem d_X_drawnLead_5 : decode b_X_drawnLead 5 = .ok (.aload_n 0, 1) := by decide +kernel
theorem d_X_drawnLead_6 : decode b_X_drawnLead 6 = .ok (.getfield 44, 3) := by decide +kernel
theorem d_X_drawnLead_9 : decode b_X_drawnLead 9 = .ok (.if_icmp .ge 29, 3) := by decide +kernel
theorem d_X_drawnLead_12 : decode b_X_drawnLead 12 = .ok (.lload_n 1, 1) := by decide +kernel
theorem d_X_drawnLead_13 : decode b_X_drawnLead 13 = .ok (.aload_n 0, 1) := by decide +kernel
theorem d_X_drawnLead_14 : decode b_X_drawnLead 14 = .ok (.getfield 41, 3) := by decide +kernel
theorem d_X_drawnLead_17 : decode b_X_drawnLead 17 = .ok (.aload_n 0, 1) := by decide +kernel
theorem d_X_drawnLead_18 : decode b_X_drawnLead 18 = .ok (.getfield 50, 3) := by decide +kernel
theorem d_X_drawnLead_21 : decode b_X_drawnLead 21 = .ok (.aload_n 0, 1) := by decide +kernel
theorem d_X_drawnLead_22 : decode b_X_drawnLead 22 = .ok (.getfield 44, 3) := by decide +kernel
theorem d_X_drawnLead_25 : decode b_X_drawnLead 25 = .ok (.invokevirtual 221, 3) := by decide +kernel
theorem d_X_drawnLead_28 : decode b_X_drawnLead 28 = .ok (.iaload, 1) := by decide +kernel
theorem d_X_drawnLead_29 : decode b_X_drawnLead 29 = .ok (.i2l, 1) := by decide +kernel
theorem d_X_drawnLead_30 : decode b_X_drawnLead 30 = .ok (.ladd, 1) := by decide +kernel
theorem d_X_drawnLead_31 : decode b_X_drawnLead 31 = .ok (.lstore_n 1, 1) := by decide +kernel
theorem d_X_drawnLead_32 : decode b_X_drawnLead 32 = .ok (.iinc 3 1, 3) := by decide +kernel
theorem d_X_drawnLead_35 : decode b_X_drawnLead 35 = .ok (.goto (-31), 3) := by decide +kernel
theorem d_X_drawnLead_38 : decode b_X_drawnLead 38 = .ok (.lload_n 1, 1) := by decide +kernel
theorem d_X_drawnLead_39 : decode b_X_drawnLead 39 = .ok (.lreturn, 1) := by decide +kernel
theorem d_X_odds_0 : decode b_X_odds 0 = .ok (.lconst 1, 1) := by decide +kernel
theorem d_X_odds_1 : decode b_X_odds 1 = .ok (.lstore_n 3, 1) := by decide +kernel
theorem d_X_odds_2 : decode b_X_odds 2 = .ok (.lconst 1, 1) := by decide +kernel
theorem d_X_odds_3 : decode b_X_odds 3 = .ok (.lstore 5, 2) := by decide +kernel
theorem d_X_odds_5 : decode b_X_odds 5 = .ok (.iconst 1, 1) := by decide +kernel
theorem d_X_odds_6 : decode b_X_odds 6 = .ok (.istore 7, 2) := by decide +kernel
theorem d_X_odds_8 : decode b_X_odds 8 = .ok (.iload 7, 2) := by decide +kernel
theorem d_X_odds_10 : decode b_X_odds 10 = .ok (.iload_n 1, 1) := by decide +kernel
theorem d_X_odds_11 : decode b_X_odds 11 = .ok (.if_icmp .gt 29, 3) := by decide +kernel
theorem d_X_odds_14 : decode b_X_odds 14 = .ok (.lload_n 3, 1) := by decide +kernel
theorem d_X_odds_15 : decode b_X_odds 15 = .ok (.iload_n 0, 1) := by decide +kernel
theorem d_X_odds_16 : decode b_X_odds 16 = .ok (.iload 7, 2) := by decide +kernel
theorem d_X_odds_18 : decode b_X_odds 18 = .ok (.isub, 1) := by decide +kernel
theorem d_X_odds_19 : decode b_X_odds 19 = .ok (.iconst 1, 1) := by decide +kernel
theorem d_X_odds_20 : decode b_X_odds 20 = .ok (.iadd, 1) := by decide +kernel
theorem d_X_odds_21 : decode b_X_odds 21 = .ok (.i2l, 1) := by decide +kernel
theorem d_X_odds_22 : decode b_X_odds 22 = .ok (.lmul, 1) := by decide +kernel
theorem d_X_odds_23 : decode b_X_odds 23 = .ok (.iload 7, 2) := by decide +kernel
theorem d_X_odds_25 : decode b_X_odds 25 = .ok (.i2l, 1) := by decide +kernel
theorem d_X_odds_26 : decode b_X_odds 26 = .ok (.ldiv, 1) := by decide +kernel
theorem d_X_odds_27 : decode b_X_odds 27 = .ok (.lstore_n 3, 1) := by decide +kernel
theorem d_X_odds_28 : decode b_X_odds 28 = .ok (.lload 5, 2) := by decide +kernel
theorem d_X_odds_30 : decode b_X_odds 30 = .ok (.lload_n 3, 1) := by decide +kernel
theorem d_X_odds_31 : decode b_X_odds 31 = .ok (.ladd, 1) := by decide +kernel
theorem d_X_odds_32 : decode b_X_odds 32 = .ok (.lstore 5, 2) := by decide +kernel
theorem d_X_odds_34 : decode b_X_odds 34 = .ok (.iinc 7 1, 3) := by decide +kernel
theorem d_X_odds_37 : decode b_X_odds 37 = .ok (.goto (-29), 3) := by decide +kernel
theorem d_X_odds_40 : decode b_X_odds 40 = .ok (.lconst 1, 1) := by decide +kernel
theorem d_X_odds_41 : decode b_X_odds 41 = .ok (.iload_n 0, 1) := by decide +kernel
theorem d_X_odds_42 : decode b_X_odds 42 = .ok (.lshl, 1) := by decide +kernel
theorem d_X_odds_43 : decode b_X_odds 43 = .ok (.lstore 7, 2) := by decide +kernel
theorem d_X_odds_45 : decode b_X_odds 45 = .ok (.ldc2_w 248, 3) := by decide +kernel
theorem d_X_odds_48 : decode b_X_odds 48 = .ok (.lload 5, 2) := by decide +kernel
theorem d_X_odds_50 : decode b_X_odds 50 = .ok (.lmul, 1) := by decide +kernel
theorem d_X_odds_51 : decode b_X_odds 51 = .ok (.lload 7, 2) := by decide +kernel
theorem d_X_odds_53 : decode b_X_odds 53 = .ok (.invokestatic 250, 3) := by decide +kernel
theorem d_X_odds_56 : decode b_X_odds 56 = .ok (.lstore 9, 2) := by decide +kernel
theorem d_X_odds_58 : decode b_X_odds 58 = .ok (.iload_n 2, 1) := by decide +kernel
theorem d_X_odds_59 : decode b_X_odds 59 = .ok (.ifCond .eq 13, 3) := by decide +kernel
theorem d_X_odds_62 : decode b_X_odds 62 = .ok (.lload 9, 2) := by decide +kernel
theorem d_X_odds_64 : decode b_X_odds 64 = .ok (.lload 7, 2) := by decide +kernel
theorem d_X_odds_66 : decode b_X_odds 66 = .ok (.invokestatic 130, 3) := by decide +kernel
theorem d_X_odds_69 : decode b_X_odds 69 = .ok (.goto 10, 3) := by decide +kernel
theorem d_X_odds_72 : decode b_X_odds 72 = .ok (.lload 7, 2) := by decide +kernel
theorem d_X_odds_74 : decode b_X_odds 74 = .ok (.lload 9, 2) := by decide +kernel
theorem d_X_odds_76 : decode b_X_odds 76 = .ok (.invokestatic 130, 3) := by decide +kernel
theorem d_X_odds_79 : decode b_X_odds 79 = .ok (.lreturn, 1) := by decide +kernel
theorem d_X_inLowestTerms_0 : decode b_X_inLowestTerms 0 = .ok (.lload_n 0, 1) := by decide +kernel
theorem d_X_inLowestTerms_1 : decode b_X_inLowestTerms 1 = .ok (.lstore 4, 2) := by decide +kernel
theorem d_X_inLowestTerms_3 : decode b_X_inLowestTerms 3 = .ok (.lload_n 2, 1) := by decide +kernel
theorem d_X_inLowestTerms_4 : decode b_X_inLowestTerms 4 = .ok (.lstore 6, 2) := by decide +kernel
theorem d_X_inLowestTerms_6 : decode b_X_inLowestTerms 6 = .ok (.iconst 0, 1) := by decide +kernel
theorem d_X_inLowestTerms_7 : decode b_X_inLowestTerms 7 = .ok (.istore 8, 2) := by decide +kernel
theorem d_X_inLowestTerms_9 : decode b_X_inLowestTerms 9 = .ok (.iload 8, 2) := by decide +kernel
theorem d_X_inLowestTerms_11 : decode b_X_inLowestTerms 11 = .ok (.bipush 100, 2) := by decide +kernel
theorem d_X_inLowestTerms_13 : decode b_X_inLowestTerms 13 = .ok (.if_icmp .ge 31, 3) := by decide +kernel
theorem d_X_inLowestTerms_16 : decode b_X_inLowestTerms 16 = .ok (.lload 6, 2) := by decide +kernel
theorem d_X_inLowestTerms_18 : decode b_X_inLowestTerms 18 = .ok (.lconst 0, 1) := by decide +kernel
theorem d_X_inLowestTerms_19 : decode b_X_inLowestTerms 19 = .ok (.lcmp, 1) := by decide +kernel
theorem d_X_inLowestTerms_20 : decode b_X_inLowestTerms 20 = .ok (.ifCond .eq 24, 3) := by decide +kernel
theorem d_X_inLowestTerms_23 : decode b_X_inLowestTerms 23 = .ok (.lload 4, 2) := by decide +kernel
theorem d_X_inLowestTerms_25 : decode b_X_inLowestTerms 25 = .ok (.lload 6, 2) := by decide +kernel
theorem d_X_inLowestTerms_27 : decode b_X_inLowestTerms 27 = .ok (.lrem, 1) := by decide +kernel
theorem d_X_inLowestTerms_28 : decode b_X_inLowestTerms 28 = .ok (.lstore 9, 2) := by decide +kernel
theorem d_X_inLowestTerms_30 : decode b_X_inLowestTerms 30 = .ok (.lload 6, 2) := by decide +kernel
theorem d_X_inLowestTerms_32 : decode b_X_inLowestTerms 32 = .ok (.lstore 4, 2) := by decide +kernel
theorem d_X_inLowestTerms_34 : decode b_X_inLowestTerms 34 = .ok (.lload 9, 2) := by decide +kernel
theorem d_X_inLowestTerms_36 : decode b_X_inLowestTerms 36 = .ok (.lstore 6, 2) := by decide +kernel
theorem d_X_inLowestTerms_38 : decode b_X_inLowestTerms 38 = .ok (.iinc 8 1, 3) := by decide +kernel
theorem d_X_inLowestTerms_41 : decode b_X_inLowestTerms 41 = .ok (.goto (-32), 3) := by decide +kernel
theorem d_X_inLowestTerms_44 : decode b_X_inLowestTerms 44 = .ok (.lload 4, 2) := by decide +kernel
theorem d_X_inLowestTerms_46 : decode b_X_inLowestTerms 46 = .ok (.lconst 0, 1) := by decide +kernel
theorem d_X_inLowestTerms_47 : decode b_X_inLowestTerms 47 = .ok (.lcmp, 1) := by decide +kernel
theorem d_X_inLowestTerms_48 : decode b_X_inLowestTerms 48 = .ok (.ifCond .ne 7, 3) := by decide +kernel
theorem d_X_inLowestTerms_51 : decode b_X_inLowestTerms 51 = .ok (.lload_n 0, 1) := by decide +kernel
theorem d_X_inLowestTerms_52 : decode b_X_inLowestTerms 52 = .ok (.goto 7, 3) := by decide +kernel
theorem d_X_inLowestTerms_55 : decode b_X_inLowestTerms 55 = .ok (.lload_n 0, 1) := by decide +kernel
theorem d_X_inLowestTerms_56 : decode b_X_inLowestTerms 56 = .ok (.lload 4, 2) := by decide +kernel
theorem d_X_inLowestTerms_58 : decode b_X_inLowestTerms 58 = .ok (.ldiv, 1) := by decide +kernel
theorem d_X_inLowestTerms_59 : decode b_X_inLowestTerms 59 = .ok (.lreturn, 1) := by decide +kernel
theorem d_M_init_0 : decode b_M_init 0 = .ok (.aload_n 0, 1) := by decide +kernel
theorem d_M_init_1 : decode b_M_init 1 = .ok (.invokespecial 1, 3) := by decide +kernel
theorem d_M_init_4 : decode b_M_init 4 = .ok (.aload_n 0, 1) := by decide +kernel
theorem d_M_init_5 : decode b_M_init 5 = .ok (.sipush 192, 3) := by decide +kernel
theorem d_M_init_8 : decode b_M_init 8 = .ok (.newarray .int, 2) := by decide +kernel
theorem d_M_init_10 : decode b_M_init 10 = .ok (.putfield 7, 3) := by decide +kernel
theorem d_M_init_13 : decode b_M_init 13 = .ok (.aload_n 0, 1) := by decide +kernel
theorem d_M_init_14 : decode b_M_init 14 = .ok (.sipush 192, 3) := by decide +kernel
theorem d_M_init_17 : decode b_M_init 17 = .ok (.newarray .boolean, 2) := by decide +kernel
theorem d_M_init_19 : decode b_M_init 19 = .ok (.putfield 13, 3) := by decide +kernel
theorem d_M_init_22 : decode b_M_init 22 = .ok (.aload_n 0, 1) := by decide +kernel
theorem d_M_init_23 : decode b_M_init 23 = .ok (.sipush 1152, 3) := by decide +kernel
theorem d_M_init_26 : decode b_M_init 26 = .ok (.newarray .int, 2) := by decide +kernel
theorem d_M_init_28 : decode b_M_init 28 = .ok (.putfield 17, 3) := by decide +kernel
theorem d_M_init_31 : decode b_M_init 31 = .ok (.aload_n 0, 1) := by decide +kernel
theorem d_M_init_32 : decode b_M_init 32 = .ok (.sipush 1152, 3) := by decide +kernel
theorem d_M_init_35 : decode b_M_init 35 = .ok (.newarray .int, 2) := by decide +kernel
theorem d_M_init_37 : decode b_M_init 37 = .ok (.putfield 20, 3) := by decide +kernel
theorem d_M_init_40 : decode b_M_init 40 = .ok (.aload_n 0, 1) := by decide +kernel
theorem d_M_init_41 : decode b_M_init 41 = .ok (.sipush 192, 3) := by decide +kernel
theorem d_M_init_44 : decode b_M_init 44 = .ok (.newarray .int, 2) := by decide +kernel
theorem d_M_init_46 : decode b_M_init 46 = .ok (.putfield 23, 3) := by decide +kernel
theorem d_M_init_49 : decode b_M_init 49 = .ok (.aload_n 0, 1) := by decide +kernel
theorem d_M_init_50 : decode b_M_init 50 = .ok (.sipush 256, 3) := by decide +kernel
theorem d_M_init_53 : decode b_M_init 53 = .ok (.newarray .int, 2) := by decide +kernel
theorem d_M_init_55 : decode b_M_init 55 = .ok (.putfield 26, 3) := by decide +kernel
theorem d_M_init_58 : decode b_M_init 58 = .ok (.aload_n 0, 1) := by decide +kernel
theorem d_M_init_59 : decode b_M_init 59 = .ok (.bipush 6, 2) := by decide +kernel
theorem d_M_init_61 : decode b_M_init 61 = .ok (.newarray .int, 2) := by decide +kernel
theorem d_M_init_63 : decode b_M_init 63 = .ok (.putfield 29, 3) := by decide +kernel
theorem d_M_init_66 : decode b_M_init 66 = .ok (.aload_n 0, 1) := by decide +kernel
theorem d_M_init_67 : decode b_M_init 67 = .ok (.bipush 25, 2) := by decide +kernel
theorem d_M_init_69 : decode b_M_init 69 = .ok (.newarray .long, 2) := by decide +kernel
theorem d_M_init_71 : decode b_M_init 71 = .ok (.putfield 32, 3) := by decide +kernel
theorem d_M_init_74 : decode b_M_init 74 = .ok (.return_, 1) := by decide +kernel
theorem d_M_thrown_0 : decode b_M_thrown 0 = .ok (.aload_n 0, 1) := by decide +kernel
theorem d_M_thrown_1 : decode b_M_thrown 1 = .ok (.getfield 36, 3) := by decide +kernel
theorem d_M_thrown_4 : decode b_M_thrown 4 = .ok (.ireturn, 1) := by decide +kernel
theorem d_M_refuses_0 : decode b_M_refuses 0 = .ok (.aload_n 0, 1) := by decide +kernel
theorem d_M_refuses_1 : decode b_M_refuses 1 = .ok (.iload_n 1, 1) := by decide +kernel
theorem d_M_refuses_2 : decode b_M_refuses 2 = .ok (.putfield 36, 3) := by decide +kernel
theorem d_M_refuses_5 : decode b_M_refuses 5 = .ok (.iload_n 1, 1) := by decide +kernel
theorem d_M_refuses_6 : decode b_M_refuses 6 = .ok (.ifCond .le 7, 3) := by decide +kernel
theorem d_M_refuses_9 : decode b_M_refuses 9 = .ok (.iconst 1, 1) := by decide +kernel
theorem d_M_refuses_10 : decode b_M_refuses 10 = .ok (.goto 4, 3) := by decide +kernel
theorem d_M_refuses_13 : decode b_M_refuses 13 = .ok (.iconst 0, 1) := by decide +kernel
theorem d_M_refuses_14 : decode b_M_refuses 14 = .ok (.ireturn, 1) := by decide +kernel
theorem d_M_isIn_0 : decode b_M_isIn 0 = .ok (.lload_n 0, 1) := by decide +kernel
theorem d_M_isIn_1 : decode b_M_isIn 1 = .ok (.lload_n 2, 1) := by decide +kernel
theorem d_M_isIn_2 : decode b_M_isIn 2 = .ok (.lcmp, 1) := by decide +kernel
theorem d_M_isIn_3 : decode b_M_isIn 3 = .ok (.ifCond .lt 14, 3) := by decide +kernel
theorem d_M_isIn_6 : decode b_M_isIn 6 = .ok (.lload_n 0, 1) := by decide +kernel
theorem d_M_isIn_7 : decode b_M_isIn 7 = .ok (.lload 4, 2) := by decide +kernel
theorem d_M_isIn_9 : decode b_M_isIn 9 = .ok (.lcmp, 1) := by decide +kernel
theorem d_M_isIn_10 : decode b_M_isIn 10 = .ok (.ifCond .gt 7, 3) := by decide +kernel
theorem d_M_isIn_13 : decode b_M_isIn 13 = .ok (.iconst 1, 1) := by decide +kernel
theorem d_M_isIn_14 : decode b_M_isIn 14 = .ok (.goto 4, 3) := by decide +kernel
theorem d_M_isIn_17 : decode b_M_isIn 17 = .ok (.iconst 0, 1) := by decide +kernel
theorem d_M_isIn_18 : decode b_M_isIn 18 = .ok (.ireturn, 1) := by decide +kernel
theorem d_M_noCoder_0 : decode b_M_noCoder 0 = .ok (.iload_n 1, 1) := by decide +kernel
theorem d_M_noCoder_1 : decode b_M_noCoder 1 = .ok (.ifCond .lt 11, 3) := by decide +kernel
theorem d_M_noCoder_4 : decode b_M_noCoder 4 = .ok (.iload_n 1, 1) := by decide +kernel
theorem d_M_noCoder_5 : decode b_M_noCoder 5 = .ok (.aload_n 0, 1) := by decide +kernel
theorem d_M_noCoder_6 : decode b_M_noCoder 6 = .ok (.getfield 40, 3) := by decide +kernel
theorem d_M_noCoder_9 : decode b_M_noCoder 9 = .ok (.if_icmp .lt 7, 3) := by decide +kernel
theorem d_M_noCoder_12 : decode b_M_noCoder 12 = .ok (.iconst 1, 1) := by decide +kernel
theorem d_M_noCoder_13 : decode b_M_noCoder 13 = .ok (.goto 4, 3) := by decide +kernel
theorem d_M_noCoder_16 : decode b_M_noCoder 16 = .ok (.iconst 0, 1) := by decide +kernel
theorem d_M_noCoder_17 : decode b_M_noCoder 17 = .ok (.ireturn, 1) := by decide +kernel
theorem d_M_noPair_0 : decode b_M_noPair 0 = .ok (.aload_n 0, 1) := by decide +kernel
theorem d_M_noPair_1 : decode b_M_noPair 1 = .ok (.iload_n 1, 1) := by decide +kernel
theorem d_M_noPair_2 : decode b_M_noPair 2 = .ok (.invokevirtual 43, 3) := by decide +kernel
theorem d_M_noPair_5 : decode b_M_noPair 5 = .ok (.ifCond .ne 15, 3) := by decide +kernel
theorem d_M_noPair_8 : decode b_M_noPair 8 = .ok (.iload_n 2, 1) := by decide +kernel
theorem d_M_noPair_9 : decode b_M_noPair 9 = .ok (.ifCond .lt 11, 3) := by decide +kernel
theorem d_M_noPair_12 : decode b_M_noPair 12 = .ok (.iload_n 2, 1) := by decide +kernel
theorem d_M_noPair_13 : decode b_M_noPair 13 = .ok (.aload_n 0, 1) := by decide +kernel
theorem d_M_noPair_14 : decode b_M_noPair 14 = .ok (.getfield 47, 3) := by decide +kernel
theorem d_M_noPair_17 : decode b_M_noPair 17 = .ok (.if_icmp .lt 7, 3) := by decide +kernel
theorem d_M_noPair_20 : decode b_M_noPair 20 = .ok (.iconst 1, 1) := by decide +kernel
theorem d_M_noPair_21 : decode b_M_noPair 21 = .ok (.goto 4, 3) := by decide +kernel
theorem d_M_noPair_24 : decode b_M_noPair 24 = .ok (.iconst 0, 1) := by decide +kernel
theorem d_M_noPair_25 : decode b_M_noPair 25 = .ok (.ireturn, 1) := by decide +kernel
theorem d_M_coder_0 : decode b_M_coder 0 = .ok (.aload_n 0, 1) := by decide +kernel
theorem d_M_coder_1 : decode b_M_coder 1 = .ok (.aload_n 0, 1) := by decide +kernel
theorem d_M_coder_2 : decode b_M_coder 2 = .ok (.getfield 40, 3) := by decide +kernel
theorem d_M_coder_5 : decode b_M_coder 5 = .ok (.bipush 8, 2) := by decide +kernel
theorem d_M_coder_7 : decode b_M_coder 7 = .ok (.if_icmp .ne 7, 3) := by decide +kernel
theorem d_M_coder_10 : decode b_M_coder 10 = .ok (.iconst 1, 1) := by decide +kernel
theorem d_M_coder_11 : decode b_M_coder 11 = .ok (.goto 4, 3) := by decide +kernel
theorem d_M_coder_14 : decode b_M_coder 14 = .ok (.iconst 0, 1) := by decide +kernel
theorem d_M_coder_15 : decode b_M_coder 15 = .ok (.invokevirtual 50, 3) := by decide +kernel
