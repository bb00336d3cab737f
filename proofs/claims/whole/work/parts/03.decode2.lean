theorem d_M_coder_18 : decode b_M_coder 18 = .ok (.ifCond .eq 5, 3) := by decide +kernel
theorem d_M_coder_21 : decode b_M_coder 21 = .ok (.iconst 0, 1) := by decide +kernel
theorem d_M_coder_22 : decode b_M_coder 22 = .ok (.ireturn, 1) := by decide +kernel
theorem d_M_coder_23 : decode b_M_coder 23 = .ok (.aload_n 0, 1) := by decide +kernel
theorem d_M_coder_24 : decode b_M_coder 24 = .ok (.dup, 1) := by decide +kernel
theorem d_M_coder_25 : decode b_M_coder 25 = .ok (.getfield 40, 3) := by decide +kernel
theorem d_M_coder_28 : decode b_M_coder 28 = .ok (.iconst 1, 1) := by decide +kernel
theorem d_M_coder_29 : decode b_M_coder 29 = .ok (.iadd, 1) := by decide +kernel
theorem d_M_coder_30 : decode b_M_coder 30 = .ok (.putfield 40, 3) := by decide +kernel
theorem d_M_coder_33 : decode b_M_coder 33 = .ok (.aload_n 0, 1) := by decide +kernel
theorem d_M_coder_34 : decode b_M_coder 34 = .ok (.getfield 40, 3) := by decide +kernel
theorem d_M_coder_37 : decode b_M_coder 37 = .ok (.iconst 1, 1) := by decide +kernel
theorem d_M_coder_38 : decode b_M_coder 38 = .ok (.isub, 1) := by decide +kernel
theorem d_M_coder_39 : decode b_M_coder 39 = .ok (.ireturn, 1) := by decide +kernel
theorem d_M_picture_0 : decode b_M_picture 0 = .ok (.aload_n 0, 1) := by decide +kernel
theorem d_M_picture_1 : decode b_M_picture 1 = .ok (.aload_n 0, 1) := by decide +kernel
theorem d_M_picture_2 : decode b_M_picture 2 = .ok (.getfield 47, 3) := by decide +kernel
theorem d_M_picture_5 : decode b_M_picture 5 = .ok (.bipush 24, 2) := by decide +kernel
theorem d_M_picture_7 : decode b_M_picture 7 = .ok (.if_icmp .ne 7, 3) := by decide +kernel
theorem d_M_picture_10 : decode b_M_picture 10 = .ok (.iconst 1, 1) := by decide +kernel
theorem d_M_picture_11 : decode b_M_picture 11 = .ok (.goto 4, 3) := by decide +kernel
theorem d_M_picture_14 : decode b_M_picture 14 = .ok (.iconst 0, 1) := by decide +kernel
theorem d_M_picture_15 : decode b_M_picture 15 = .ok (.invokevirtual 50, 3) := by decide +kernel
theorem d_M_picture_18 : decode b_M_picture 18 = .ok (.ifCond .eq 5, 3) := by decide +kernel
theorem d_M_picture_21 : decode b_M_picture 21 = .ok (.iconst 0, 1) := by decide +kernel
theorem d_M_picture_22 : decode b_M_picture 22 = .ok (.ireturn, 1) := by decide +kernel
theorem d_M_picture_23 : decode b_M_picture 23 = .ok (.aload_n 0, 1) := by decide +kernel
theorem d_M_picture_24 : decode b_M_picture 24 = .ok (.dup, 1) := by decide +kernel
theorem d_M_picture_25 : decode b_M_picture 25 = .ok (.getfield 47, 3) := by decide +kernel
theorem d_M_picture_28 : decode b_M_picture 28 = .ok (.iconst 1, 1) := by decide +kernel
theorem d_M_picture_29 : decode b_M_picture 29 = .ok (.iadd, 1) := by decide +kernel
theorem d_M_picture_30 : decode b_M_picture 30 = .ok (.putfield 47, 3) := by decide +kernel
theorem d_M_picture_33 : decode b_M_picture 33 = .ok (.aload_n 0, 1) := by decide +kernel
theorem d_M_picture_34 : decode b_M_picture 34 = .ok (.getfield 47, 3) := by decide +kernel
theorem d_M_picture_37 : decode b_M_picture 37 = .ok (.iconst 1, 1) := by decide +kernel
theorem d_M_picture_38 : decode b_M_picture 38 = .ok (.isub, 1) := by decide +kernel
theorem d_M_picture_39 : decode b_M_picture 39 = .ok (.ireturn, 1) := by decide +kernel
theorem d_M_add_0 : decode b_M_add 0 = .ok (.aload_n 0, 1) := by decide +kernel
theorem d_M_add_1 : decode b_M_add 1 = .ok (.getfield 17, 3) := by decide +kernel
theorem d_M_add_4 : decode b_M_add 4 = .ok (.bipush 6, 2) := by decide +kernel
theorem d_M_add_6 : decode b_M_add 6 = .ok (.iload_n 1, 1) := by decide +kernel
theorem d_M_add_7 : decode b_M_add 7 = .ok (.imul, 1) := by decide +kernel
theorem d_M_add_8 : decode b_M_add 8 = .ok (.aload_n 0, 1) := by decide +kernel
theorem d_M_add_9 : decode b_M_add 9 = .ok (.getfield 7, 3) := by decide +kernel
theorem d_M_add_12 : decode b_M_add 12 = .ok (.iload_n 1, 1) := by decide +kernel
theorem d_M_add_13 : decode b_M_add 13 = .ok (.iaload, 1) := by decide +kernel
theorem d_M_add_14 : decode b_M_add 14 = .ok (.iadd, 1) := by decide +kernel
theorem d_M_add_15 : decode b_M_add 15 = .ok (.iload_n 2, 1) := by decide +kernel
theorem d_M_add_16 : decode b_M_add 16 = .ok (.iastore, 1) := by decide +kernel
theorem d_M_add_17 : decode b_M_add 17 = .ok (.aload_n 0, 1) := by decide +kernel
theorem d_M_add_18 : decode b_M_add 18 = .ok (.getfield 20, 3) := by decide +kernel
theorem d_M_add_21 : decode b_M_add 21 = .ok (.bipush 6, 2) := by decide +kernel
theorem d_M_add_23 : decode b_M_add 23 = .ok (.iload_n 1, 1) := by decide +kernel
theorem d_M_add_24 : decode b_M_add 24 = .ok (.imul, 1) := by decide +kernel
theorem d_M_add_25 : decode b_M_add 25 = .ok (.aload_n 0, 1) := by decide +kernel
theorem d_M_add_26 : decode b_M_add 26 = .ok (.getfield 7, 3) := by decide +kernel
theorem d_M_add_29 : decode b_M_add 29 = .ok (.iload_n 1, 1) := by decide +kernel
theorem d_M_add_30 : decode b_M_add 30 = .ok (.iaload, 1) := by decide +kernel
theorem d_M_add_31 : decode b_M_add 31 = .ok (.iadd, 1) := by decide +kernel
theorem d_M_add_32 : decode b_M_add 32 = .ok (.iload_n 3, 1) := by decide +kernel
theorem d_M_add_33 : decode b_M_add 33 = .ok (.iastore, 1) := by decide +kernel
theorem d_M_add_34 : decode b_M_add 34 = .ok (.aload_n 0, 1) := by decide +kernel
theorem d_M_add_35 : decode b_M_add 35 = .ok (.getfield 7, 3) := by decide +kernel
theorem d_M_add_38 : decode b_M_add 38 = .ok (.iload_n 1, 1) := by decide +kernel
theorem d_M_add_39 : decode b_M_add 39 = .ok (.dup2, 1) := by decide +kernel
theorem d_M_add_40 : decode b_M_add 40 = .ok (.iaload, 1) := by decide +kernel
theorem d_M_add_41 : decode b_M_add 41 = .ok (.iconst 1, 1) := by decide +kernel
theorem d_M_add_42 : decode b_M_add 42 = .ok (.iadd, 1) := by decide +kernel
theorem d_M_add_43 : decode b_M_add 43 = .ok (.iastore, 1) := by decide +kernel
theorem d_M_add_44 : decode b_M_add 44 = .ok (.return_, 1) := by decide +kernel
theorem d_M_point_0 : decode b_M_point 0 = .ok (.aload_n 0, 1) := by decide +kernel
theorem d_M_point_1 : decode b_M_point 1 = .ok (.iload_n 1, 1) := by decide +kernel
theorem d_M_point_2 : decode b_M_point 2 = .ok (.iload_n 2, 1) := by decide +kernel
theorem d_M_point_3 : decode b_M_point 3 = .ok (.invokevirtual 53, 3) := by decide +kernel
theorem d_M_point_6 : decode b_M_point 6 = .ok (.istore 5, 2) := by decide +kernel
theorem d_M_point_8 : decode b_M_point 8 = .ok (.iload 5, 2) := by decide +kernel
theorem d_M_point_10 : decode b_M_point 10 = .ok (.ifCond .eq 7, 3) := by decide +kernel
theorem d_M_point_13 : decode b_M_point 13 = .ok (.iconst 0, 1) := by decide +kernel
theorem d_M_point_14 : decode b_M_point 14 = .ok (.goto 9, 3) := by decide +kernel
theorem d_M_point_17 : decode b_M_point 17 = .ok (.bipush 24, 2) := by decide +kernel
theorem d_M_point_19 : decode b_M_point 19 = .ok (.iload_n 1, 1) := by decide +kernel
theorem d_M_point_20 : decode b_M_point 20 = .ok (.imul, 1) := by decide +kernel
theorem d_M_point_21 : decode b_M_point 21 = .ok (.iload_n 2, 1) := by decide +kernel
theorem d_M_point_22 : decode b_M_point 22 = .ok (.iadd, 1) := by decide +kernel
theorem d_M_point_23 : decode b_M_point 23 = .ok (.istore 6, 2) := by decide +kernel
theorem d_M_point_25 : decode b_M_point 25 = .ok (.aload_n 0, 1) := by decide +kernel
theorem d_M_point_26 : decode b_M_point 26 = .ok (.iload 5, 2) := by decide +kernel
theorem d_M_point_28 : decode b_M_point 28 = .ok (.ifCond .eq 7, 3) := by decide +kernel
theorem d_M_point_31 : decode b_M_point 31 = .ok (.iconst 1, 1) := by decide +kernel
theorem d_M_point_32 : decode b_M_point 32 = .ok (.goto 63, 3) := by decide +kernel
theorem d_M_point_35 : decode b_M_point 35 = .ok (.iload_n 3, 1) := by decide +kernel
theorem d_M_point_36 : decode b_M_point 36 = .ok (.i2l, 1) := by decide +kernel
theorem d_M_point_37 : decode b_M_point 37 = .ok (.lconst 1, 1) := by decide +kernel
theorem d_M_point_38 : decode b_M_point 38 = .ok (.ldc2_w 57, 3) := by decide +kernel
theorem d_M_point_41 : decode b_M_point 41 = .ok (.invokestatic 59, 3) := by decide +kernel
theorem d_M_point_44 : decode b_M_point 44 = .ok (.ifCond .eq 16, 3) := by decide +kernel
theorem d_M_point_47 : decode b_M_point 47 = .ok (.iload 4, 2) := by decide +kernel
theorem d_M_point_49 : decode b_M_point 49 = .ok (.i2l, 1) := by decide +kernel
theorem d_M_point_50 : decode b_M_point 50 = .ok (.lconst 0, 1) := by decide +kernel
theorem d_M_point_51 : decode b_M_point 51 = .ok (.ldc2_w 57, 3) := by decide +kernel
theorem d_M_point_54 : decode b_M_point 54 = .ok (.invokestatic 59, 3) := by decide +kernel
theorem d_M_point_57 : decode b_M_point 57 = .ok (.ifCond .ne 7, 3) := by decide +kernel
theorem d_M_point_60 : decode b_M_point 60 = .ok (.iconst 2, 1) := by decide +kernel
theorem d_M_point_61 : decode b_M_point 61 = .ok (.goto 34, 3) := by decide +kernel
theorem d_M_point_64 : decode b_M_point 64 = .ok (.aload_n 0, 1) := by decide +kernel
theorem d_M_point_65 : decode b_M_point 65 = .ok (.getfield 13, 3) := by decide +kernel
theorem d_M_point_68 : decode b_M_point 68 = .ok (.iload 6, 2) := by decide +kernel
theorem d_M_point_70 : decode b_M_point 70 = .ok (.baload, 1) := by decide +kernel
theorem d_M_point_71 : decode b_M_point 71 = .ok (.ifCond .eq 7, 3) := by decide +kernel
theorem d_M_point_74 : decode b_M_point 74 = .ok (.iconst 3, 1) := by decide +kernel
theorem d_M_point_75 : decode b_M_point 75 = .ok (.goto 20, 3) := by decide +kernel
theorem d_M_point_78 : decode b_M_point 78 = .ok (.aload_n 0, 1) := by decide +kernel
theorem d_M_point_79 : decode b_M_point 79 = .ok (.getfield 7, 3) := by decide +kernel
theorem d_M_point_82 : decode b_M_point 82 = .ok (.iload 6, 2) := by decide +kernel
theorem d_M_point_84 : decode b_M_point 84 = .ok (.iaload, 1) := by decide +kernel
theorem d_M_point_85 : decode b_M_point 85 = .ok (.bipush 6, 2) := by decide +kernel
theorem d_M_point_87 : decode b_M_point 87 = .ok (.if_icmp .ne 7, 3) := by decide +kernel
theorem d_M_point_90 : decode b_M_point 90 = .ok (.iconst 4, 1) := by decide +kernel
theorem d_M_point_91 : decode b_M_point 91 = .ok (.goto 4, 3) := by decide +kernel
theorem d_M_point_94 : decode b_M_point 94 = .ok (.iconst 0, 1) := by decide +kernel
theorem d_M_point_95 : decode b_M_point 95 = .ok (.invokevirtual 50, 3) := by decide +kernel
theorem d_M_point_98 : decode b_M_point 98 = .ok (.ifCond .eq 5, 3) := by decide +kernel
theorem d_M_point_101 : decode b_M_point 101 = .ok (.iconst 0, 1) := by decide +kernel
theorem d_M_point_102 : decode b_M_point 102 = .ok (.ireturn, 1) := by decide +kernel
theorem d_M_point_103 : decode b_M_point 103 = .ok (.aload_n 0, 1) := by decide +kernel
theorem d_M_point_104 : decode b_M_point 104 = .ok (.iload 6, 2) := by decide +kernel
theorem d_M_point_106 : decode b_M_point 106 = .ok (.iload_n 3, 1) := by decide +kernel
theorem d_M_point_107 : decode b_M_point 107 = .ok (.iload 4, 2) := by decide +kernel
theorem d_M_point_109 : decode b_M_point 109 = .ok (.invokevirtual 63, 3) := by decide +kernel
theorem d_M_point_112 : decode b_M_point 112 = .ok (.aload_n 0, 1) := by decide +kernel
theorem d_M_point_113 : decode b_M_point 113 = .ok (.getfield 7, 3) := by decide +kernel
theorem d_M_point_116 : decode b_M_point 116 = .ok (.iload 6, 2) := by decide +kernel
theorem d_M_point_118 : decode b_M_point 118 = .ok (.iaload, 1) := by decide +kernel
theorem d_M_point_119 : decode b_M_point 119 = .ok (.ireturn, 1) := by decide +kernel
theorem d_M_fail_0 : decode b_M_fail 0 = .ok (.aload_n 0, 1) := by decide +kernel
theorem d_M_fail_1 : decode b_M_fail 1 = .ok (.getfield 13, 3) := by decide +kernel
theorem d_M_fail_4 : decode b_M_fail 4 = .ok (.iload_n 1, 1) := by decide +kernel
theorem d_M_fail_5 : decode b_M_fail 5 = .ok (.iconst 1, 1) := by decide +kernel
theorem d_M_fail_6 : decode b_M_fail 6 = .ok (.bastore, 1) := by decide +kernel
theorem d_M_fail_7 : decode b_M_fail 7 = .ok (.aload_n 0, 1) := by decide +kernel
theorem d_M_fail_8 : decode b_M_fail 8 = .ok (.getfield 7, 3) := by decide +kernel
theorem d_M_fail_11 : decode b_M_fail 11 = .ok (.iload_n 1, 1) := by decide +kernel
theorem d_M_fail_12 : decode b_M_fail 12 = .ok (.iconst 0, 1) := by decide +kernel
theorem d_M_fail_13 : decode b_M_fail 13 = .ok (.iastore, 1) := by decide +kernel
theorem d_M_fail_14 : decode b_M_fail 14 = .ok (.aload_n 0, 1) := by decide +kernel
theorem d_M_fail_15 : decode b_M_fail 15 = .ok (.getfield 23, 3) := by decide +kernel
theorem d_M_fail_18 : decode b_M_fail 18 = .ok (.aload_n 0, 1) := by decide +kernel
theorem d_M_fail_19 : decode b_M_fail 19 = .ok (.getfield 67, 3) := by decide +kernel
theorem d_M_fail_22 : decode b_M_fail 22 = .ok (.iload_n 1, 1) := by decide +kernel
theorem d_M_fail_23 : decode b_M_fail 23 = .ok (.iastore, 1) := by decide +kernel
theorem d_M_fail_24 : decode b_M_fail 24 = .ok (.aload_n 0, 1) := by decide +kernel
theorem d_M_fail_25 : decode b_M_fail 25 = .ok (.dup, 1) := by decide +kernel
theorem d_M_fail_26 : decode b_M_fail 26 = .ok (.getfield 67, 3) := by decide +kernel
theorem d_M_fail_29 : decode b_M_fail 29 = .ok (.iconst 1, 1) := by decide +kernel
theorem d_M_fail_30 : decode b_M_fail 30 = .ok (.iadd, 1) := by decide +kernel
theorem d_M_fail_31 : decode b_M_fail 31 = .ok (.putfield 67, 3) := by decide +kernel
theorem d_M_fail_34 : decode b_M_fail 34 = .ok (.return_, 1) := by decide +kernel
theorem d_M_fails_0 : decode b_M_fails 0 = .ok (.aload_n 0, 1) := by decide +kernel
theorem d_M_fails_1 : decode b_M_fails 1 = .ok (.iload_n 1, 1) := by decide +kernel
theorem d_M_fails_2 : decode b_M_fails 2 = .ok (.iload_n 2, 1) := by decide +kernel
theorem d_M_fails_3 : decode b_M_fails 3 = .ok (.invokevirtual 53, 3) := by decide +kernel
theorem d_M_fails_6 : decode b_M_fails 6 = .ok (.istore_n 3, 1) := by decide +kernel
theorem d_M_fails_7 : decode b_M_fails 7 = .ok (.iload_n 3, 1) := by decide +kernel
theorem d_M_fails_8 : decode b_M_fails 8 = .ok (.ifCond .eq 7, 3) := by decide +kernel
theorem d_M_fails_11 : decode b_M_fails 11 = .ok (.iconst 0, 1) := by decide +kernel
theorem d_M_fails_12 : decode b_M_fails 12 = .ok (.goto 9, 3) := by decide +kernel
theorem d_M_fails_15 : decode b_M_fails 15 = .ok (.bipush 24, 2) := by decide +kernel
theorem d_M_fails_17 : decode b_M_fails 17 = .ok (.iload_n 1, 1) := by decide +kernel
theorem d_M_fails_18 : decode b_M_fails 18 = .ok (.imul, 1) := by decide +kernel
theorem d_M_fails_19 : decode b_M_fails 19 = .ok (.iload_n 2, 1) := by decide +kernel
theorem d_M_fails_20 : decode b_M_fails 20 = .ok (.iadd, 1) := by decide +kernel
theorem d_M_fails_21 : decode b_M_fails 21 = .ok (.istore 4, 2) := by decide +kernel
theorem d_M_fails_23 : decode b_M_fails 23 = .ok (.aload_n 0, 1) := by decide +kernel
theorem d_M_fails_24 : decode b_M_fails 24 = .ok (.iload_n 3, 1) := by decide +kernel
theorem d_M_fails_25 : decode b_M_fails 25 = .ok (.ifCond .eq 7, 3) := by decide +kernel
theorem d_M_fails_28 : decode b_M_fails 28 = .ok (.iconst 1, 1) := by decide +kernel
theorem d_M_fails_29 : decode b_M_fails 29 = .ok (.goto 18, 3) := by decide +kernel
theorem d_M_fails_32 : decode b_M_fails 32 = .ok (.aload_n 0, 1) := by decide +kernel
theorem d_M_fails_33 : decode b_M_fails 33 = .ok (.getfield 13, 3) := by decide +kernel
theorem d_M_fails_36 : decode b_M_fails 36 = .ok (.iload 4, 2) := by decide +kernel
theorem d_M_fails_38 : decode b_M_fails 38 = .ok (.baload, 1) := by decide +kernel
theorem d_M_fails_39 : decode b_M_fails 39 = .ok (.ifCond .eq 7, 3) := by decide +kernel
theorem d_M_fails_42 : decode b_M_fails 42 = .ok (.iconst 2, 1) := by decide +kernel
theorem d_M_fails_43 : decode b_M_fails 43 = .ok (.goto 4, 3) := by decide +kernel
theorem d_M_fails_46 : decode b_M_fails 46 = .ok (.iconst 0, 1) := by decide +kernel
theorem d_M_fails_47 : decode b_M_fails 47 = .ok (.invokevirtual 50, 3) := by decide +kernel
theorem d_M_fails_50 : decode b_M_fails 50 = .ok (.ifCond .eq 5, 3) := by decide +kernel
theorem d_M_fails_53 : decode b_M_fails 53 = .ok (.iconst 0, 1) := by decide +kernel
theorem d_M_fails_54 : decode b_M_fails 54 = .ok (.ireturn, 1) := by decide +kernel
theorem d_M_fails_55 : decode b_M_fails 55 = .ok (.aload_n 0, 1) := by decide +kernel
theorem d_M_fails_56 : decode b_M_fails 56 = .ok (.getfield 7, 3) := by decide +kernel
theorem d_M_fails_59 : decode b_M_fails 59 = .ok (.iload 4, 2) := by decide +kernel
theorem d_M_fails_61 : decode b_M_fails 61 = .ok (.iaload, 1) := by decide +kernel
theorem d_M_fails_62 : decode b_M_fails 62 = .ok (.istore 5, 2) := by decide +kernel
theorem d_M_fails_64 : decode b_M_fails 64 = .ok (.aload_n 0, 1) := by decide +kernel
theorem d_M_fails_65 : decode b_M_fails 65 = .ok (.iload 4, 2) := by decide +kernel
theorem d_M_fails_67 : decode b_M_fails 67 = .ok (.invokevirtual 70, 3) := by decide +kernel
theorem d_M_fails_70 : decode b_M_fails 70 = .ok (.iload 5, 2) := by decide +kernel
theorem d_M_fails_72 : decode b_M_fails 72 = .ok (.ireturn, 1) := by decide +kernel
theorem d_M_failed_0 : decode b_M_failed 0 = .ok (.aload_n 0, 1) := by decide +kernel
theorem d_M_failed_1 : decode b_M_failed 1 = .ok (.iconst 0, 1) := by decide +kernel
theorem d_M_failed_2 : decode b_M_failed 2 = .ok (.putfield 36, 3) := by decide +kernel
theorem d_M_failed_5 : decode b_M_failed 5 = .ok (.aload_n 0, 1) := by decide +kernel
theorem d_M_failed_6 : decode b_M_failed 6 = .ok (.getfield 67, 3) := by decide +kernel
theorem d_M_failed_9 : decode b_M_failed 9 = .ok (.ireturn, 1) := by decide +kernel
theorem d_M_failing_0 : decode b_M_failing 0 = .ok (.aload_n 0, 1) := by decide +kernel
theorem d_M_failing_1 : decode b_M_failing 1 = .ok (.iload_n 1, 1) := by decide +kernel
theorem d_M_failing_2 : decode b_M_failing 2 = .ok (.ifCond .lt 11, 3) := by decide +kernel
theorem d_M_failing_5 : decode b_M_failing 5 = .ok (.iload_n 1, 1) := by decide +kernel
theorem d_M_failing_6 : decode b_M_failing 6 = .ok (.aload_n 0, 1) := by decide +kernel
theorem d_M_failing_7 : decode b_M_failing 7 = .ok (.getfield 67, 3) := by decide +kernel
theorem d_M_failing_10 : decode b_M_failing 10 = .ok (.if_icmp .lt 7, 3) := by decide +kernel
theorem d_M_failing_13 : decode b_M_failing 13 = .ok (.iconst 1, 1) := by decide +kernel
theorem d_M_failing_14 : decode b_M_failing 14 = .ok (.goto 17, 3) := by decide +kernel
theorem d_M_failing_17 : decode b_M_failing 17 = .ok (.iload_n 2, 1) := by decide +kernel
theorem d_M_failing_18 : decode b_M_failing 18 = .ok (.ifCond .eq 12, 3) := by decide +kernel
theorem d_M_failing_21 : decode b_M_failing 21 = .ok (.iload_n 2, 1) := by decide +kernel
theorem d_M_failing_22 : decode b_M_failing 22 = .ok (.iconst 1, 1) := by decide +kernel
theorem d_M_failing_23 : decode b_M_failing 23 = .ok (.if_icmp .eq 7, 3) := by decide +kernel
theorem d_M_failing_26 : decode b_M_failing 26 = .ok (.iconst 2, 1) := by decide +kernel
theorem d_M_failing_27 : decode b_M_failing 27 = .ok (.goto 4, 3) := by decide +kernel
theorem d_M_failing_30 : decode b_M_failing 30 = .ok (.iconst 0, 1) := by decide +kernel
theorem d_M_failing_31 : decode b_M_failing 31 = .ok (.invokevirtual 50, 3) := by decide +kernel
theorem d_M_failing_34 : decode b_M_failing 34 = .ok (.ifCond .eq 5, 3) := by decide +kernel
theorem d_M_failing_37 : decode b_M_failing 37 = .ok (.iconst 0, 1) := by decide +kernel
theorem d_M_failing_38 : decode b_M_failing 38 = .ok (.ireturn, 1) := by decide +kernel
theorem d_M_failing_39 : decode b_M_failing 39 = .ok (.iload_n 2, 1) := by decide +kernel
theorem d_M_failing_40 : decode b_M_failing 40 = .ok (.ifCond .ne 15, 3) := by decide +kernel
theorem d_M_failing_43 : decode b_M_failing 43 = .ok (.aload_n 0, 1) := by decide +kernel
theorem d_M_failing_44 : decode b_M_failing 44 = .ok (.getfield 23, 3) := by decide +kernel
theorem d_M_failing_47 : decode b_M_failing 47 = .ok (.iload_n 1, 1) := by decide +kernel
theorem d_M_failing_48 : decode b_M_failing 48 = .ok (.iaload, 1) := by decide +kernel
theorem d_M_failing_49 : decode b_M_failing 49 = .ok (.bipush 24, 2) := by decide +kernel
theorem d_M_failing_51 : decode b_M_failing 51 = .ok (.idiv, 1) := by decide +kernel
theorem d_M_failing_52 : decode b_M_failing 52 = .ok (.goto 12, 3) := by decide +kernel
theorem d_M_failing_55 : decode b_M_failing 55 = .ok (.aload_n 0, 1) := by decide +kernel
theorem d_M_failing_56 : decode b_M_failing 56 = .ok (.getfield 23, 3) := by decide +kernel
theorem d_M_failing_59 : decode b_M_failing 59 = .ok (.iload_n 1, 1) := by decide +kernel
theorem d_M_failing_60 : decode b_M_failing 60 = .ok (.iaload, 1) := by decide +kernel
theorem d_M_failing_61 : decode b_M_failing 61 = .ok (.bipush 24, 2) := by decide +kernel
theorem d_M_failing_63 : decode b_M_failing 63 = .ok (.irem, 1) := by decide +kernel
theorem d_M_failing_64 : decode b_M_failing 64 = .ok (.ireturn, 1) := by decide +kernel
theorem d_M_least_0 : decode b_M_least 0 = .ok (.aload_n 0, 1) := by decide +kernel
theorem d_M_least_1 : decode b_M_least 1 = .ok (.iload_n 1, 1) := by decide +kernel
theorem d_M_least_2 : decode b_M_least 2 = .ok (.ifCond .lt 11, 3) := by decide +kernel
theorem d_M_least_5 : decode b_M_least 5 = .ok (.iload_n 1, 1) := by decide +kernel
theorem d_M_least_6 : decode b_M_least 6 = .ok (.aload_n 0, 1) := by decide +kernel
theorem d_M_least_7 : decode b_M_least 7 = .ok (.getfield 47, 3) := by decide +kernel
theorem d_M_least_10 : decode b_M_least 10 = .ok (.if_icmp .lt 7, 3) := by decide +kernel
theorem d_M_least_13 : decode b_M_least 13 = .ok (.iconst 1, 1) := by decide +kernel
theorem d_M_least_14 : decode b_M_least 14 = .ok (.goto 12, 3) := by decide +kernel
theorem d_M_least_17 : decode b_M_least 17 = .ok (.iload_n 2, 1) := by decide +kernel
theorem d_M_least_18 : decode b_M_least 18 = .ok (.ifCond .ge 7, 3) := by decide +kernel
theorem d_M_least_21 : decode b_M_least 21 = .ok (.iconst 2, 1) := by decide +kernel
theorem d_M_least_22 : decode b_M_least 22 = .ok (.goto 4, 3) := by decide +kernel
theorem d_M_least_25 : decode b_M_least 25 = .ok (.iconst 0, 1) := by decide +kernel
theorem d_M_least_26 : decode b_M_least 26 = .ok (.invokevirtual 50, 3) := by decide +kernel
theorem d_M_least_29 : decode b_M_least 29 = .ok (.ifCond .eq 5, 3) := by decide +kernel
theorem d_M_least_32 : decode b_M_least 32 = .ok (.iconst 0, 1) := by decide +kernel
theorem d_M_least_33 : decode b_M_least 33 = .ok (.ireturn, 1) := by decide +kernel
theorem d_M_least_34 : decode b_M_least 34 = .ok (.iconst (-1), 1) := by decide +kernel
theorem d_M_least_35 : decode b_M_least 35 = .ok (.istore_n 3, 1) := by decide +kernel
theorem d_M_least_36 : decode b_M_least 36 = .ok (.iconst 0, 1) := by decide +kernel
theorem d_M_least_37 : decode b_M_least 37 = .ok (.istore 4, 2) := by decide +kernel
theorem d_M_least_39 : decode b_M_least 39 = .ok (.iconst 0, 1) := by decide +kernel
theorem d_M_least_40 : decode b_M_least 40 = .ok (.istore 5, 2) := by decide +kernel
theorem d_M_least_42 : decode b_M_least 42 = .ok (.iload 5, 2) := by decide +kernel
theorem d_M_least_44 : decode b_M_least 44 = .ok (.aload_n 0, 1) := by decide +kernel
theorem d_M_least_45 : decode b_M_least 45 = .ok (.getfield 40, 3) := by decide +kernel
theorem d_M_least_48 : decode b_M_least 48 = .ok (.if_icmp .ge 89, 3) := by decide +kernel
theorem d_M_least_51 : decode b_M_least 51 = .ok (.bipush 24, 2) := by decide +kernel
theorem d_M_least_53 : decode b_M_least 53 = .ok (.iload 5, 2) := by decide +kernel
theorem d_M_least_55 : decode b_M_least 55 = .ok (.imul, 1) := by decide +kernel
theorem d_M_least_56 : decode b_M_least 56 = .ok (.iload_n 1, 1) := by decide +kernel
theorem d_M_least_57 : decode b_M_least 57 = .ok (.iadd, 1) := by decide +kernel
theorem d_M_least_58 : decode b_M_least 58 = .ok (.istore 6, 2) := by decide +kernel
theorem d_M_least_60 : decode b_M_least 60 = .ok (.bipush 6, 2) := by decide +kernel
theorem d_M_least_62 : decode b_M_least 62 = .ok (.iload 6, 2) := by decide +kernel
theorem d_M_least_64 : decode b_M_least 64 = .ok (.imul, 1) := by decide +kernel
theorem d_M_least_65 : decode b_M_least 65 = .ok (.istore 7, 2) := by decide +kernel
theorem d_M_least_67 : decode b_M_least 67 = .ok (.iload 7, 2) := by decide +kernel
theorem d_M_least_69 : decode b_M_least 69 = .ok (.bipush 6, 2) := by decide +kernel
theorem d_M_least_71 : decode b_M_least 71 = .ok (.iload 6, 2) := by decide +kernel
theorem d_M_least_73 : decode b_M_least 73 = .ok (.imul, 1) := by decide +kernel
theorem d_M_least_74 : decode b_M_least 74 = .ok (.aload_n 0, 1) := by decide +kernel
theorem d_M_least_75 : decode b_M_least 75 = .ok (.getfield 7, 3) := by decide +kernel
theorem d_M_least_78 : decode b_M_least 78 = .ok (.iload 6, 2) := by decide +kernel
theorem d_M_least_80 : decode b_M_least 80 = .ok (.iaload, 1) := by decide +kernel
theorem d_M_least_81 : decode b_M_least 81 = .ok (.iadd, 1) := by decide +kernel
theorem d_M_least_82 : decode b_M_least 82 = .ok (.if_icmp .ge 49, 3) := by decide +kernel
theorem d_M_least_85 : decode b_M_least 85 = .ok (.aload_n 0, 1) := by decide +kernel
theorem d_M_least_86 : decode b_M_least 86 = .ok (.getfield 20, 3) := by decide +kernel
theorem d_M_least_89 : decode b_M_least 89 = .ok (.iload 7, 2) := by decide +kernel
theorem d_M_least_91 : decode b_M_least 91 = .ok (.iaload, 1) := by decide +kernel
theorem d_M_least_92 : decode b_M_least 92 = .ok (.iload_n 2, 1) := by decide +kernel
theorem d_M_least_93 : decode b_M_least 93 = .ok (.if_icmp .gt 32, 3) := by decide +kernel
theorem d_M_least_96 : decode b_M_least 96 = .ok (.iload_n 3, 1) := by decide +kernel
theorem d_M_least_97 : decode b_M_least 97 = .ok (.iconst (-1), 1) := by decide +kernel
theorem d_M_least_98 : decode b_M_least 98 = .ok (.if_icmp .eq 15, 3) := by decide +kernel
theorem d_M_least_101 : decode b_M_least 101 = .ok (.aload_n 0, 1) := by decide +kernel
theorem d_M_least_102 : decode b_M_least 102 = .ok (.getfield 17, 3) := by decide +kernel
theorem d_M_least_105 : decode b_M_least 105 = .ok (.iload 7, 2) := by decide +kernel
theorem d_M_least_107 : decode b_M_least 107 = .ok (.iaload, 1) := by decide +kernel
theorem d_M_least_108 : decode b_M_least 108 = .ok (.iload 4, 2) := by decide +kernel
theorem d_M_least_110 : decode b_M_least 110 = .ok (.if_icmp .ge 15, 3) := by decide +kernel
theorem d_M_least_113 : decode b_M_least 113 = .ok (.iload 5, 2) := by decide +kernel
theorem d_M_least_115 : decode b_M_least 115 = .ok (.istore_n 3, 1) := by decide +kernel
theorem d_M_least_116 : decode b_M_least 116 = .ok (.aload_n 0, 1) := by decide +kernel
theorem d_M_least_117 : decode b_M_least 117 = .ok (.getfield 17, 3) := by decide +kernel
theorem d_M_least_120 : decode b_M_least 120 = .ok (.iload 7, 2) := by decide +kernel
theorem d_M_least_122 : decode b_M_least 122 = .ok (.iaload, 1) := by decide +kernel
theorem d_M_least_123 : decode b_M_least 123 = .ok (.istore 4, 2) := by decide +kernel
theorem d_M_least_125 : decode b_M_least 125 = .ok (.iinc 7 1, 3) := by decide +kernel
theorem d_M_least_128 : decode b_M_least 128 = .ok (.goto (-61), 3) := by decide +kernel
theorem d_M_least_131 : decode b_M_least 131 = .ok (.iinc 5 1, 3) := by decide +kernel
theorem d_M_least_134 : decode b_M_least 134 = .ok (.goto (-92), 3) := by decide +kernel
theorem d_M_least_137 : decode b_M_least 137 = .ok (.iload_n 3, 1) := by decide +kernel
theorem d_M_least_138 : decode b_M_least 138 = .ok (.ireturn, 1) := by decide +kernel
theorem d_M_bytes_0 : decode b_M_bytes 0 = .ok (.aload_n 0, 1) := by decide +kernel
theorem d_M_bytes_1 : decode b_M_bytes 1 = .ok (.getfield 17, 3) := by decide +kernel
theorem d_M_bytes_4 : decode b_M_bytes 4 = .ok (.bipush 6, 2) := by decide +kernel
theorem d_M_bytes_6 : decode b_M_bytes 6 = .ok (.iload_n 1, 1) := by decide +kernel
theorem d_M_bytes_7 : decode b_M_bytes 7 = .ok (.imul, 1) := by decide +kernel
theorem d_M_bytes_8 : decode b_M_bytes 8 = .ok (.iaload, 1) := by decide +kernel
theorem d_M_bytes_9 : decode b_M_bytes 9 = .ok (.istore_n 2, 1) := by decide +kernel
theorem d_M_bytes_10 : decode b_M_bytes 10 = .ok (.iconst 1, 1) := by decide +kernel
theorem d_M_bytes_11 : decode b_M_bytes 11 = .ok (.istore_n 3, 1) := by decide +kernel
theorem d_M_bytes_12 : decode b_M_bytes 12 = .ok (.iload_n 3, 1) := by decide +kernel
theorem d_M_bytes_13 : decode b_M_bytes 13 = .ok (.aload_n 0, 1) := by decide +kernel
theorem d_M_bytes_14 : decode b_M_bytes 14 = .ok (.getfield 7, 3) := by decide +kernel
theorem d_M_bytes_17 : decode b_M_bytes 17 = .ok (.iload_n 1, 1) := by decide +kernel
theorem d_M_bytes_18 : decode b_M_bytes 18 = .ok (.iaload, 1) := by decide +kernel
theorem d_M_bytes_19 : decode b_M_bytes 19 = .ok (.if_icmp .ge 35, 3) := by decide +kernel
theorem d_M_bytes_22 : decode b_M_bytes 22 = .ok (.aload_n 0, 1) := by decide +kernel
theorem d_M_bytes_23 : decode b_M_bytes 23 = .ok (.getfield 17, 3) := by decide +kernel
theorem d_M_bytes_26 : decode b_M_bytes 26 = .ok (.bipush 6, 2) := by decide +kernel
theorem d_M_bytes_28 : decode b_M_bytes 28 = .ok (.iload_n 1, 1) := by decide +kernel
theorem d_M_bytes_29 : decode b_M_bytes 29 = .ok (.imul, 1) := by decide +kernel
theorem d_M_bytes_30 : decode b_M_bytes 30 = .ok (.iload_n 3, 1) := by decide +kernel
theorem d_M_bytes_31 : decode b_M_bytes 31 = .ok (.iadd, 1) := by decide +kernel
theorem d_M_bytes_32 : decode b_M_bytes 32 = .ok (.iaload, 1) := by decide +kernel
theorem d_M_bytes_33 : decode b_M_bytes 33 = .ok (.istore 4, 2) := by decide +kernel
theorem d_M_bytes_35 : decode b_M_bytes 35 = .ok (.iload 4, 2) := by decide +kernel
theorem d_M_bytes_37 : decode b_M_bytes 37 = .ok (.iload_n 2, 1) := by decide +kernel
theorem d_M_bytes_38 : decode b_M_bytes 38 = .ok (.if_icmp .ge 8, 3) := by decide +kernel
theorem d_M_bytes_41 : decode b_M_bytes 41 = .ok (.iload 4, 2) := by decide +kernel
theorem d_M_bytes_43 : decode b_M_bytes 43 = .ok (.goto 4, 3) := by decide +kernel
theorem d_M_bytes_46 : decode b_M_bytes 46 = .ok (.iload_n 2, 1) := by decide +kernel
theorem d_M_bytes_47 : decode b_M_bytes 47 = .ok (.istore_n 2, 1) := by decide +kernel
theorem d_M_bytes_48 : decode b_M_bytes 48 = .ok (.iinc 3 1, 3) := by decide +kernel
theorem d_M_bytes_51 : decode b_M_bytes 51 = .ok (.goto (-39), 3) := by decide +kernel
theorem d_M_bytes_54 : decode b_M_bytes 54 = .ok (.iload_n 2, 1) := by decide +kernel
theorem d_M_bytes_55 : decode b_M_bytes 55 = .ok (.ireturn, 1) := by decide +kernel
theorem d_M_sumOf_0 : decode b_M_sumOf 0 = .ok (.lconst 0, 1) := by decide +kernel
theorem d_M_sumOf_1 : decode b_M_sumOf 1 = .ok (.lstore_n 2, 1) := by decide +kernel
theorem d_M_sumOf_2 : decode b_M_sumOf 2 = .ok (.iconst 0, 1) := by decide +kernel
theorem d_M_sumOf_3 : decode b_M_sumOf 3 = .ok (.istore 4, 2) := by decide +kernel
theorem d_M_sumOf_5 : decode b_M_sumOf 5 = .ok (.iload 4, 2) := by decide +kernel
theorem d_M_sumOf_7 : decode b_M_sumOf 7 = .ok (.aload_n 0, 1) := by decide +kernel
theorem d_M_sumOf_8 : decode b_M_sumOf 8 = .ok (.getfield 47, 3) := by decide +kernel
theorem d_M_sumOf_11 : decode b_M_sumOf 11 = .ok (.if_icmp .ge 43, 3) := by decide +kernel
theorem d_M_sumOf_14 : decode b_M_sumOf 14 = .ok (.lload_n 2, 1) := by decide +kernel
theorem d_M_sumOf_15 : decode b_M_sumOf 15 = .ok (.aload_n 0, 1) := by decide +kernel
theorem d_M_sumOf_16 : decode b_M_sumOf 16 = .ok (.getfield 7, 3) := by decide +kernel
theorem d_M_sumOf_19 : decode b_M_sumOf 19 = .ok (.bipush 24, 2) := by decide +kernel
theorem d_M_sumOf_21 : decode b_M_sumOf 21 = .ok (.iload_n 1, 1) := by decide +kernel
theorem d_M_sumOf_22 : decode b_M_sumOf 22 = .ok (.imul, 1) := by decide +kernel
theorem d_M_sumOf_23 : decode b_M_sumOf 23 = .ok (.iload 4, 2) := by decide +kernel
theorem d_M_sumOf_25 : decode b_M_sumOf 25 = .ok (.iadd, 1) := by decide +kernel
theorem d_M_sumOf_26 : decode b_M_sumOf 26 = .ok (.iaload, 1) := by decide +kernel
theorem d_M_sumOf_27 : decode b_M_sumOf 27 = .ok (.ifCond .le 18, 3) := by decide +kernel
theorem d_M_sumOf_30 : decode b_M_sumOf 30 = .ok (.aload_n 0, 1) := by decide +kernel
theorem d_M_sumOf_31 : decode b_M_sumOf 31 = .ok (.bipush 24, 2) := by decide +kernel
theorem d_M_sumOf_33 : decode b_M_sumOf 33 = .ok (.iload_n 1, 1) := by decide +kernel
theorem d_M_sumOf_34 : decode b_M_sumOf 34 = .ok (.imul, 1) := by decide +kernel
theorem d_M_sumOf_35 : decode b_M_sumOf 35 = .ok (.iload 4, 2) := by decide +kernel
theorem d_M_sumOf_37 : decode b_M_sumOf 37 = .ok (.iadd, 1) := by decide +kernel
theorem d_M_sumOf_38 : decode b_M_sumOf 38 = .ok (.invokevirtual 74, 3) := by decide +kernel
theorem d_M_sumOf_41 : decode b_M_sumOf 41 = .ok (.i2l, 1) := by decide +kernel
theorem d_M_sumOf_42 : decode b_M_sumOf 42 = .ok (.goto 4, 3) := by decide +kernel
theorem d_M_sumOf_45 : decode b_M_sumOf 45 = .ok (.lconst 0, 1) := by decide +kernel
theorem d_M_sumOf_46 : decode b_M_sumOf 46 = .ok (.ladd, 1) := by decide +kernel
theorem d_M_sumOf_47 : decode b_M_sumOf 47 = .ok (.lstore_n 2, 1) := by decide +kernel
theorem d_M_sumOf_48 : decode b_M_sumOf 48 = .ok (.iinc 4 1, 3) := by decide +kernel
theorem d_M_sumOf_51 : decode b_M_sumOf 51 = .ok (.goto (-46), 3) := by decide +kernel
theorem d_M_sumOf_54 : decode b_M_sumOf 54 = .ok (.lload_n 2, 1) := by decide +kernel
theorem d_M_sumOf_55 : decode b_M_sumOf 55 = .ok (.lreturn, 1) := by decide +kernel
theorem d_M_countedOf_0 : decode b_M_countedOf 0 = .ok (.iconst 0, 1) := by decide +kernel
theorem d_M_countedOf_1 : decode b_M_countedOf 1 = .ok (.istore_n 2, 1) := by decide +kernel
theorem d_M_countedOf_2 : decode b_M_countedOf 2 = .ok (.iconst 0, 1) := by decide +kernel
theorem d_M_countedOf_3 : decode b_M_countedOf 3 = .ok (.istore_n 3, 1) := by decide +kernel
theorem d_M_countedOf_4 : decode b_M_countedOf 4 = .ok (.iload_n 3, 1) := by decide +kernel
theorem d_M_countedOf_5 : decode b_M_countedOf 5 = .ok (.aload_n 0, 1) := by decide +kernel
theorem d_M_countedOf_6 : decode b_M_countedOf 6 = .ok (.getfield 47, 3) := by decide +kernel
theorem d_M_countedOf_9 : decode b_M_countedOf 9 = .ok (.if_icmp .ge 31, 3) := by decide +kernel
theorem d_M_countedOf_12 : decode b_M_countedOf 12 = .ok (.iload_n 2, 1) := by decide +kernel
theorem d_M_countedOf_13 : decode b_M_countedOf 13 = .ok (.aload_n 0, 1) := by decide +kernel
theorem d_M_countedOf_14 : decode b_M_countedOf 14 = .ok (.getfield 7, 3) := by decide +kernel
theorem d_M_countedOf_17 : decode b_M_countedOf 17 = .ok (.bipush 24, 2) := by decide +kernel
theorem d_M_countedOf_19 : decode b_M_countedOf 19 = .ok (.iload_n 1, 1) := by decide +kernel
theorem d_M_countedOf_20 : decode b_M_countedOf 20 = .ok (.imul, 1) := by decide +kernel
theorem d_M_countedOf_21 : decode b_M_countedOf 21 = .ok (.iload_n 3, 1) := by decide +kernel
theorem d_M_countedOf_22 : decode b_M_countedOf 22 = .ok (.iadd, 1) := by decide +kernel
theorem d_M_countedOf_23 : decode b_M_countedOf 23 = .ok (.iaload, 1) := by decide +kernel
theorem d_M_countedOf_24 : decode b_M_countedOf 24 = .ok (.ifCond .le 7, 3) := by decide +kernel
theorem d_M_countedOf_27 : decode b_M_countedOf 27 = .ok (.iconst 1, 1) := by decide +kernel
theorem d_M_countedOf_28 : decode b_M_countedOf 28 = .ok (.goto 4, 3) := by decide +kernel
theorem d_M_countedOf_31 : decode b_M_countedOf 31 = .ok (.iconst 0, 1) := by decide +kernel
theorem d_M_countedOf_32 : decode b_M_countedOf 32 = .ok (.iadd, 1) := by decide +kernel
theorem d_M_countedOf_33 : decode b_M_countedOf 33 = .ok (.istore_n 2, 1) := by decide +kernel
theorem d_M_countedOf_34 : decode b_M_countedOf 34 = .ok (.iinc 3 1, 3) := by decide +kernel
theorem d_M_countedOf_37 : decode b_M_countedOf 37 = .ok (.goto (-33), 3) := by decide +kernel
theorem d_M_countedOf_40 : decode b_M_countedOf 40 = .ok (.iload_n 2, 1) := by decide +kernel
theorem d_M_countedOf_41 : decode b_M_countedOf 41 = .ok (.ireturn, 1) := by decide +kernel
theorem d_M_sum_0 : decode b_M_sum 0 = .ok (.aload_n 0, 1) := by decide +kernel
theorem d_M_sum_1 : decode b_M_sum 1 = .ok (.aload_n 0, 1) := by decide +kernel
theorem d_M_sum_2 : decode b_M_sum 2 = .ok (.iload_n 1, 1) := by decide +kernel
theorem d_M_sum_3 : decode b_M_sum 3 = .ok (.invokevirtual 43, 3) := by decide +kernel
theorem d_M_sum_6 : decode b_M_sum 6 = .ok (.ifCond .eq 7, 3) := by decide +kernel
theorem d_M_sum_9 : decode b_M_sum 9 = .ok (.iconst 1, 1) := by decide +kernel
theorem d_M_sum_10 : decode b_M_sum 10 = .ok (.goto 4, 3) := by decide +kernel
theorem d_M_sum_13 : decode b_M_sum 13 = .ok (.iconst 0, 1) := by decide +kernel
theorem d_M_sum_14 : decode b_M_sum 14 = .ok (.invokevirtual 50, 3) := by decide +kernel
theorem d_M_sum_17 : decode b_M_sum 17 = .ok (.ifCond .eq 5, 3) := by decide +kernel
theorem d_M_sum_20 : decode b_M_sum 20 = .ok (.lconst 0, 1) := by decide +kernel
theorem d_M_sum_21 : decode b_M_sum 21 = .ok (.lreturn, 1) := by decide +kernel
theorem d_M_sum_22 : decode b_M_sum 22 = .ok (.aload_n 0, 1) := by decide +kernel
theorem d_M_sum_23 : decode b_M_sum 23 = .ok (.iload_n 1, 1) := by decide +kernel
theorem d_M_sum_24 : decode b_M_sum 24 = .ok (.invokevirtual 78, 3) := by decide +kernel
theorem d_M_sum_27 : decode b_M_sum 27 = .ok (.ifCond .ne 9, 3) := by decide +kernel
theorem d_M_sum_30 : decode b_M_sum 30 = .ok (.ldc2_w 81, 3) := by decide +kernel
theorem d_M_sum_33 : decode b_M_sum 33 = .ok (.goto 8, 3) := by decide +kernel
theorem d_M_sum_36 : decode b_M_sum 36 = .ok (.aload_n 0, 1) := by decide +kernel
theorem d_M_sum_37 : decode b_M_sum 37 = .ok (.iload_n 1, 1) := by decide +kernel
theorem d_M_sum_38 : decode b_M_sum 38 = .ok (.invokevirtual 83, 3) := by decide +kernel
theorem d_M_sum_41 : decode b_M_sum 41 = .ok (.lreturn, 1) := by decide +kernel
theorem d_M_common_0 : decode b_M_common 0 = .ok (.lload_n 0, 1) := by decide +kernel
theorem d_M_common_1 : decode b_M_common 1 = .ok (.lstore 4, 2) := by decide +kernel
theorem d_M_common_3 : decode b_M_common 3 = .ok (.lload_n 2, 1) := by decide +kernel
theorem d_M_common_4 : decode b_M_common 4 = .ok (.lstore 6, 2) := by decide +kernel
theorem d_M_common_6 : decode b_M_common 6 = .ok (.lload 6, 2) := by decide +kernel
theorem d_M_common_8 : decode b_M_common 8 = .ok (.lconst 0, 1) := by decide +kernel
theorem d_M_common_9 : decode b_M_common 9 = .ok (.lcmp, 1) := by decide +kernel
theorem d_M_common_10 : decode b_M_common 10 = .ok (.ifCond .eq 21, 3) := by decide +kernel
theorem d_M_common_13 : decode b_M_common 13 = .ok (.lload 4, 2) := by decide +kernel
theorem d_M_common_15 : decode b_M_common 15 = .ok (.lload 6, 2) := by decide +kernel
theorem d_M_common_17 : decode b_M_common 17 = .ok (.lrem, 1) := by decide +kernel
theorem d_M_common_18 : decode b_M_common 18 = .ok (.lstore 8, 2) := by decide +kernel
theorem d_M_common_20 : decode b_M_common 20 = .ok (.lload 6, 2) := by decide +kernel
theorem d_M_common_22 : decode b_M_common 22 = .ok (.lstore 4, 2) := by decide +kernel
theorem d_M_common_24 : decode b_M_common 24 = .ok (.lload 8, 2) := by decide +kernel
theorem d_M_common_26 : decode b_M_common 26 = .ok (.lstore 6, 2) := by decide +kernel
theorem d_M_common_28 : decode b_M_common 28 = .ok (.goto (-22), 3) := by decide +kernel
theorem d_M_common_31 : decode b_M_common 31 = .ok (.lload 4, 2) := by decide +kernel
theorem d_M_common_33 : decode b_M_common 33 = .ok (.lreturn, 1) := by decide +kernel
theorem d_M_part_0 : decode b_M_part 0 = .ok (.lload_n 0, 1) := by decide +kernel
theorem d_M_part_1 : decode b_M_part 1 = .ok (.lload_n 2, 1) := by decide +kernel
theorem d_M_part_2 : decode b_M_part 2 = .ok (.invokestatic 87, 3) := by decide +kernel
theorem d_M_part_5 : decode b_M_part 5 = .ok (.lstore 5, 2) := by decide +kernel
theorem d_M_part_7 : decode b_M_part 7 = .ok (.iload 4, 2) := by decide +kernel
theorem d_M_part_9 : decode b_M_part 9 = .ok (.ifCond .eq 10, 3) := by decide +kernel
theorem d_M_part_12 : decode b_M_part 12 = .ok (.lload_n 0, 1) := by decide +kernel
theorem d_M_part_13 : decode b_M_part 13 = .ok (.lload 5, 2) := by decide +kernel
theorem d_M_part_15 : decode b_M_part 15 = .ok (.ldiv, 1) := by decide +kernel
theorem d_M_part_16 : decode b_M_part 16 = .ok (.goto 7, 3) := by decide +kernel
theorem d_M_part_19 : decode b_M_part 19 = .ok (.lload_n 2, 1) := by decide +kernel
theorem d_M_part_20 : decode b_M_part 20 = .ok (.lload 5, 2) := by decide +kernel
theorem d_M_part_22 : decode b_M_part 22 = .ok (.ldiv, 1) := by decide +kernel
theorem d_M_part_23 : decode b_M_part 23 = .ok (.lreturn, 1) := by decide +kernel
theorem d_M_mean_0 : decode b_M_mean 0 = .ok (.aload_n 0, 1) := by decide +kernel
theorem d_M_mean_1 : decode b_M_mean 1 = .ok (.aload_n 0, 1) := by decide +kernel
theorem d_M_mean_2 : decode b_M_mean 2 = .ok (.iload_n 1, 1) := by decide +kernel
theorem d_M_mean_3 : decode b_M_mean 3 = .ok (.invokevirtual 43, 3) := by decide +kernel
theorem d_M_mean_6 : decode b_M_mean 6 = .ok (.ifCond .eq 7, 3) := by decide +kernel
theorem d_M_mean_9 : decode b_M_mean 9 = .ok (.iconst 1, 1) := by decide +kernel
theorem d_M_mean_10 : decode b_M_mean 10 = .ok (.goto 16, 3) := by decide +kernel
theorem d_M_mean_13 : decode b_M_mean 13 = .ok (.aload_n 0, 1) := by decide +kernel
theorem d_M_mean_14 : decode b_M_mean 14 = .ok (.iload_n 1, 1) := by decide +kernel
theorem d_M_mean_15 : decode b_M_mean 15 = .ok (.invokevirtual 78, 3) := by decide +kernel
theorem d_M_mean_18 : decode b_M_mean 18 = .ok (.ifCond .ne 7, 3) := by decide +kernel
theorem d_M_mean_21 : decode b_M_mean 21 = .ok (.iconst 2, 1) := by decide +kernel
theorem d_M_mean_22 : decode b_M_mean 22 = .ok (.goto 4, 3) := by decide +kernel
theorem d_M_mean_25 : decode b_M_mean 25 = .ok (.iconst 0, 1) := by decide +kernel
theorem d_M_mean_26 : decode b_M_mean 26 = .ok (.invokevirtual 50, 3) := by decide +kernel
theorem d_M_mean_29 : decode b_M_mean 29 = .ok (.ifCond .eq 5, 3) := by decide +kernel
theorem d_M_mean_32 : decode b_M_mean 32 = .ok (.lconst 0, 1) := by decide +kernel
theorem d_M_mean_33 : decode b_M_mean 33 = .ok (.lreturn, 1) := by decide +kernel
theorem d_M_mean_34 : decode b_M_mean 34 = .ok (.aload_n 0, 1) := by decide +kernel
theorem d_M_mean_35 : decode b_M_mean 35 = .ok (.iload_n 1, 1) := by decide +kernel
theorem d_M_mean_36 : decode b_M_mean 36 = .ok (.invokevirtual 83, 3) := by decide +kernel
theorem d_M_mean_39 : decode b_M_mean 39 = .ok (.aload_n 0, 1) := by decide +kernel
theorem d_M_mean_40 : decode b_M_mean 40 = .ok (.iload_n 1, 1) := by decide +kernel
theorem d_M_mean_41 : decode b_M_mean 41 = .ok (.invokevirtual 78, 3) := by decide +kernel
theorem d_M_mean_44 : decode b_M_mean 44 = .ok (.i2l, 1) := by decide +kernel
theorem d_M_mean_45 : decode b_M_mean 45 = .ok (.iload_n 2, 1) := by decide +kernel
theorem d_M_mean_46 : decode b_M_mean 46 = .ok (.invokestatic 91, 3) := by decide +kernel
theorem d_M_mean_49 : decode b_M_mean 49 = .ok (.lreturn, 1) := by decide +kernel
theorem d_M_rankOf_0 : decode b_M_rankOf 0 = .ok (.iconst 1, 1) := by decide +kernel
theorem d_M_rankOf_1 : decode b_M_rankOf 1 = .ok (.istore_n 2, 1) := by decide +kernel
theorem d_M_rankOf_2 : decode b_M_rankOf 2 = .ok (.iconst 0, 1) := by decide +kernel
theorem d_M_rankOf_3 : decode b_M_rankOf 3 = .ok (.istore_n 3, 1) := by decide +kernel
theorem d_M_rankOf_4 : decode b_M_rankOf 4 = .ok (.iload_n 3, 1) := by decide +kernel
theorem d_M_rankOf_5 : decode b_M_rankOf 5 = .ok (.aload_n 0, 1) := by decide +kernel
theorem d_M_rankOf_6 : decode b_M_rankOf 6 = .ok (.getfield 40, 3) := by decide +kernel
theorem d_M_rankOf_9 : decode b_M_rankOf 9 = .ok (.if_icmp .ge 73, 3) := by decide +kernel
theorem d_M_rankOf_12 : decode b_M_rankOf 12 = .ok (.aload_n 0, 1) := by decide +kernel
theorem d_M_rankOf_13 : decode b_M_rankOf 13 = .ok (.iload_n 3, 1) := by decide +kernel
theorem d_M_rankOf_14 : decode b_M_rankOf 14 = .ok (.invokevirtual 78, 3) := by decide +kernel
theorem d_M_rankOf_17 : decode b_M_rankOf 17 = .ok (.ifCond .le 59, 3) := by decide +kernel
theorem d_M_rankOf_20 : decode b_M_rankOf 20 = .ok (.aload_n 0, 1) := by decide +kernel
theorem d_M_rankOf_21 : decode b_M_rankOf 21 = .ok (.iload_n 3, 1) := by decide +kernel
theorem d_M_rankOf_22 : decode b_M_rankOf 22 = .ok (.invokevirtual 83, 3) := by decide +kernel
theorem d_M_rankOf_25 : decode b_M_rankOf 25 = .ok (.aload_n 0, 1) := by decide +kernel
theorem d_M_rankOf_26 : decode b_M_rankOf 26 = .ok (.iload_n 1, 1) := by decide +kernel
theorem d_M_rankOf_27 : decode b_M_rankOf 27 = .ok (.invokevirtual 78, 3) := by decide +kernel
theorem d_M_rankOf_30 : decode b_M_rankOf 30 = .ok (.i2l, 1) := by decide +kernel
theorem d_M_rankOf_31 : decode b_M_rankOf 31 = .ok (.lmul, 1) := by decide +kernel
theorem d_M_rankOf_32 : decode b_M_rankOf 32 = .ok (.lstore 4, 2) := by decide +kernel
theorem d_M_rankOf_34 : decode b_M_rankOf 34 = .ok (.aload_n 0, 1) := by decide +kernel
theorem d_M_rankOf_35 : decode b_M_rankOf 35 = .ok (.iload_n 1, 1) := by decide +kernel
theorem d_M_rankOf_36 : decode b_M_rankOf 36 = .ok (.invokevirtual 83, 3) := by decide +kernel
theorem d_M_rankOf_39 : decode b_M_rankOf 39 = .ok (.aload_n 0, 1) := by decide +kernel
theorem d_M_rankOf_40 : decode b_M_rankOf 40 = .ok (.iload_n 3, 1) := by decide +kernel
theorem d_M_rankOf_41 : decode b_M_rankOf 41 = .ok (.invokevirtual 78, 3) := by decide +kernel
theorem d_M_rankOf_44 : decode b_M_rankOf 44 = .ok (.i2l, 1) := by decide +kernel
theorem d_M_rankOf_45 : decode b_M_rankOf 45 = .ok (.lmul, 1) := by decide +kernel
theorem d_M_rankOf_46 : decode b_M_rankOf 46 = .ok (.lstore 6, 2) := by decide +kernel
theorem d_M_rankOf_48 : decode b_M_rankOf 48 = .ok (.iload_n 2, 1) := by decide +kernel
theorem d_M_rankOf_49 : decode b_M_rankOf 49 = .ok (.lload 4, 2) := by decide +kernel
theorem d_M_rankOf_51 : decode b_M_rankOf 51 = .ok (.lload 6, 2) := by decide +kernel
theorem d_M_rankOf_53 : decode b_M_rankOf 53 = .ok (.lcmp, 1) := by decide +kernel
theorem d_M_rankOf_54 : decode b_M_rankOf 54 = .ok (.ifCond .ge 7, 3) := by decide +kernel
theorem d_M_rankOf_57 : decode b_M_rankOf 57 = .ok (.iconst 2, 1) := by decide +kernel
theorem d_M_rankOf_58 : decode b_M_rankOf 58 = .ok (.goto 16, 3) := by decide +kernel
theorem d_M_rankOf_61 : decode b_M_rankOf 61 = .ok (.lload 4, 2) := by decide +kernel
theorem d_M_rankOf_63 : decode b_M_rankOf 63 = .ok (.lload 6, 2) := by decide +kernel
theorem d_M_rankOf_65 : decode b_M_rankOf 65 = .ok (.lcmp, 1) := by decide +kernel
theorem d_M_rankOf_66 : decode b_M_rankOf 66 = .ok (.ifCond .ne 7, 3) := by decide +kernel
theorem d_M_rankOf_69 : decode b_M_rankOf 69 = .ok (.iconst 1, 1) := by decide +kernel
theorem d_M_rankOf_70 : decode b_M_rankOf 70 = .ok (.goto 4, 3) := by decide +kernel
theorem d_M_rankOf_73 : decode b_M_rankOf 73 = .ok (.iconst 0, 1) := by decide +kernel
theorem d_M_rankOf_74 : decode b_M_rankOf 74 = .ok (.iadd, 1) := by decide +kernel
theorem d_M_rankOf_75 : decode b_M_rankOf 75 = .ok (.istore_n 2, 1) := by decide +kernel
theorem d_M_rankOf_76 : decode b_M_rankOf 76 = .ok (.iinc 3 1, 3) := by decide +kernel
theorem d_M_rankOf_79 : decode b_M_rankOf 79 = .ok (.goto (-75), 3) := by decide +kernel
theorem d_M_rankOf_82 : decode b_M_rankOf 82 = .ok (.iload_n 2, 1) := by decide +kernel
theorem d_M_rankOf_83 : decode b_M_rankOf 83 = .ok (.ireturn, 1) := by decide +kernel
theorem d_M_rank_0 : decode b_M_rank 0 = .ok (.aload_n 0, 1) := by decide +kernel
theorem d_M_rank_1 : decode b_M_rank 1 = .ok (.aload_n 0, 1) := by decide +kernel
theorem d_M_rank_2 : decode b_M_rank 2 = .ok (.iload_n 1, 1) := by decide +kernel
theorem d_M_rank_3 : decode b_M_rank 3 = .ok (.invokevirtual 43, 3) := by decide +kernel
theorem d_M_rank_6 : decode b_M_rank 6 = .ok (.ifCond .eq 7, 3) := by decide +kernel
theorem d_M_rank_9 : decode b_M_rank 9 = .ok (.iconst 1, 1) := by decide +kernel
theorem d_M_rank_10 : decode b_M_rank 10 = .ok (.goto 16, 3) := by decide +kernel
theorem d_M_rank_13 : decode b_M_rank 13 = .ok (.aload_n 0, 1) := by decide +kernel
theorem d_M_rank_14 : decode b_M_rank 14 = .ok (.iload_n 1, 1) := by decide +kernel
theorem d_M_rank_15 : decode b_M_rank 15 = .ok (.invokevirtual 78, 3) := by decide +kernel
theorem d_M_rank_18 : decode b_M_rank 18 = .ok (.ifCond .ne 7, 3) := by decide +kernel
theorem d_M_rank_21 : decode b_M_rank 21 = .ok (.iconst 2, 1) := by decide +kernel
theorem d_M_rank_22 : decode b_M_rank 22 = .ok (.goto 4, 3) := by decide +kernel
theorem d_M_rank_25 : decode b_M_rank 25 = .ok (.iconst 0, 1) := by decide +kernel
theorem d_M_rank_26 : decode b_M_rank 26 = .ok (.invokevirtual 50, 3) := by decide +kernel
theorem d_M_rank_29 : decode b_M_rank 29 = .ok (.ifCond .eq 5, 3) := by decide +kernel
theorem d_M_rank_32 : decode b_M_rank 32 = .ok (.iconst 0, 1) := by decide +kernel
theorem d_M_rank_33 : decode b_M_rank 33 = .ok (.ireturn, 1) := by decide +kernel
theorem d_M_rank_34 : decode b_M_rank 34 = .ok (.aload_n 0, 1) := by decide +kernel
theorem d_M_rank_35 : decode b_M_rank 35 = .ok (.iload_n 1, 1) := by decide +kernel
theorem d_M_rank_36 : decode b_M_rank 36 = .ok (.invokevirtual 95, 3) := by decide +kernel
theorem d_M_rank_39 : decode b_M_rank 39 = .ok (.ireturn, 1) := by decide +kernel
theorem d_M_isBest_0 : decode b_M_isBest 0 = .ok (.iconst 1, 1) := by decide +kernel
theorem d_M_isBest_1 : decode b_M_isBest 1 = .ok (.istore_n 3, 1) := by decide +kernel
theorem d_M_isBest_2 : decode b_M_isBest 2 = .ok (.bipush 6, 2) := by decide +kernel
theorem d_M_isBest_4 : decode b_M_isBest 4 = .ok (.iload_n 1, 1) := by decide +kernel
theorem d_M_isBest_5 : decode b_M_isBest 5 = .ok (.imul, 1) := by decide +kernel
theorem d_M_isBest_6 : decode b_M_isBest 6 = .ok (.istore 4, 2) := by decide +kernel
theorem d_M_isBest_8 : decode b_M_isBest 8 = .ok (.iload 4, 2) := by decide +kernel
theorem d_M_isBest_10 : decode b_M_isBest 10 = .ok (.bipush 6, 2) := by decide +kernel
theorem d_M_isBest_12 : decode b_M_isBest 12 = .ok (.iload_n 1, 1) := by decide +kernel
theorem d_M_isBest_13 : decode b_M_isBest 13 = .ok (.imul, 1) := by decide +kernel
theorem d_M_isBest_14 : decode b_M_isBest 14 = .ok (.aload_n 0, 1) := by decide +kernel
theorem d_M_isBest_15 : decode b_M_isBest 15 = .ok (.getfield 7, 3) := by decide +kernel
theorem d_M_isBest_18 : decode b_M_isBest 18 = .ok (.iload_n 1, 1) := by decide +kernel
theorem d_M_isBest_19 : decode b_M_isBest 19 = .ok (.iaload, 1) := by decide +kernel
theorem d_M_isBest_20 : decode b_M_isBest 20 = .ok (.iadd, 1) := by decide +kernel
theorem d_M_isBest_21 : decode b_M_isBest 21 = .ok (.if_icmp .ge 104, 3) := by decide +kernel
theorem d_M_isBest_24 : decode b_M_isBest 24 = .ok (.aload_n 0, 1) := by decide +kernel
theorem d_M_isBest_25 : decode b_M_isBest 25 = .ok (.getfield 17, 3) := by decide +kernel
theorem d_M_isBest_28 : decode b_M_isBest 28 = .ok (.iload 4, 2) := by decide +kernel
theorem d_M_isBest_30 : decode b_M_isBest 30 = .ok (.iaload, 1) := by decide +kernel
theorem d_M_isBest_31 : decode b_M_isBest 31 = .ok (.aload_n 0, 1) := by decide +kernel
theorem d_M_isBest_32 : decode b_M_isBest 32 = .ok (.getfield 17, 3) := by decide +kernel
theorem d_M_isBest_35 : decode b_M_isBest 35 = .ok (.iload_n 2, 1) := by decide +kernel
theorem d_M_isBest_36 : decode b_M_isBest 36 = .ok (.iaload, 1) := by decide +kernel
theorem d_M_isBest_37 : decode b_M_isBest 37 = .ok (.if_icmp .ne 23, 3) := by decide +kernel
theorem d_M_isBest_40 : decode b_M_isBest 40 = .ok (.aload_n 0, 1) := by decide +kernel
theorem d_M_isBest_41 : decode b_M_isBest 41 = .ok (.getfield 20, 3) := by decide +kernel
theorem d_M_isBest_44 : decode b_M_isBest 44 = .ok (.iload 4, 2) := by decide +kernel
theorem d_M_isBest_46 : decode b_M_isBest 46 = .ok (.iaload, 1) := by decide +kernel
theorem d_M_isBest_47 : decode b_M_isBest 47 = .ok (.aload_n 0, 1) := by decide +kernel
theorem d_M_isBest_48 : decode b_M_isBest 48 = .ok (.getfield 20, 3) := by decide +kernel
theorem d_M_isBest_51 : decode b_M_isBest 51 = .ok (.iload_n 2, 1) := by decide +kernel
theorem d_M_isBest_52 : decode b_M_isBest 52 = .ok (.iaload, 1) := by decide +kernel
theorem d_M_isBest_53 : decode b_M_isBest 53 = .ok (.if_icmp .ne 7, 3) := by decide +kernel
theorem d_M_isBest_56 : decode b_M_isBest 56 = .ok (.iconst 1, 1) := by decide +kernel
theorem d_M_isBest_57 : decode b_M_isBest 57 = .ok (.goto 4, 3) := by decide +kernel
theorem d_M_isBest_60 : decode b_M_isBest 60 = .ok (.iconst 0, 1) := by decide +kernel
theorem d_M_isBest_61 : decode b_M_isBest 61 = .ok (.istore 5, 2) := by decide +kernel
theorem d_M_isBest_63 : decode b_M_isBest 63 = .ok (.iload_n 3, 1) := by decide +kernel
theorem d_M_isBest_64 : decode b_M_isBest 64 = .ok (.ifCond .eq 53, 3) := by decide +kernel
theorem d_M_isBest_67 : decode b_M_isBest 67 = .ok (.iload 5, 2) := by decide +kernel
theorem d_M_isBest_69 : decode b_M_isBest 69 = .ok (.ifCond .eq 12, 3) := by decide +kernel
theorem d_M_isBest_72 : decode b_M_isBest 72 = .ok (.iload 4, 2) := by decide +kernel
theorem d_M_isBest_74 : decode b_M_isBest 74 = .ok (.iload_n 2, 1) := by decide +kernel
theorem d_M_isBest_75 : decode b_M_isBest 75 = .ok (.if_icmp .lt 42, 3) := by decide +kernel
theorem d_M_isBest_78 : decode b_M_isBest 78 = .ok (.goto 35, 3) := by decide +kernel
theorem d_M_isBest_81 : decode b_M_isBest 81 = .ok (.aload_n 0, 1) := by decide +kernel
theorem d_M_isBest_82 : decode b_M_isBest 82 = .ok (.getfield 17, 3) := by decide +kernel
theorem d_M_isBest_85 : decode b_M_isBest 85 = .ok (.iload 4, 2) := by decide +kernel
theorem d_M_isBest_87 : decode b_M_isBest 87 = .ok (.iaload, 1) := by decide +kernel
theorem d_M_isBest_88 : decode b_M_isBest 88 = .ok (.aload_n 0, 1) := by decide +kernel
theorem d_M_isBest_89 : decode b_M_isBest 89 = .ok (.getfield 17, 3) := by decide +kernel
theorem d_M_isBest_92 : decode b_M_isBest 92 = .ok (.iload_n 2, 1) := by decide +kernel
theorem d_M_isBest_93 : decode b_M_isBest 93 = .ok (.iaload, 1) := by decide +kernel
theorem d_M_isBest_94 : decode b_M_isBest 94 = .ok (.if_icmp .gt 19, 3) := by decide +kernel
theorem d_M_isBest_97 : decode b_M_isBest 97 = .ok (.aload_n 0, 1) := by decide +kernel
theorem d_M_isBest_98 : decode b_M_isBest 98 = .ok (.getfield 20, 3) := by decide +kernel
theorem d_M_isBest_101 : decode b_M_isBest 101 = .ok (.iload 4, 2) := by decide +kernel
theorem d_M_isBest_103 : decode b_M_isBest 103 = .ok (.iaload, 1) := by decide +kernel
theorem d_M_isBest_104 : decode b_M_isBest 104 = .ok (.aload_n 0, 1) := by decide +kernel
theorem d_M_isBest_105 : decode b_M_isBest 105 = .ok (.getfield 20, 3) := by decide +kernel
theorem d_M_isBest_108 : decode b_M_isBest 108 = .ok (.iload_n 2, 1) := by decide +kernel
theorem d_M_isBest_109 : decode b_M_isBest 109 = .ok (.iaload, 1) := by decide +kernel
theorem d_M_isBest_110 : decode b_M_isBest 110 = .ok (.if_icmp .le 7, 3) := by decide +kernel
theorem d_M_isBest_113 : decode b_M_isBest 113 = .ok (.iconst 1, 1) := by decide +kernel
theorem d_M_isBest_114 : decode b_M_isBest 114 = .ok (.goto 4, 3) := by decide +kernel
theorem d_M_isBest_117 : decode b_M_isBest 117 = .ok (.iconst 0, 1) := by decide +kernel
theorem d_M_isBest_118 : decode b_M_isBest 118 = .ok (.istore_n 3, 1) := by decide +kernel
theorem d_M_isBest_119 : decode b_M_isBest 119 = .ok (.iinc 4 1, 3) := by decide +kernel
theorem d_M_isBest_122 : decode b_M_isBest 122 = .ok (.goto (-114), 3) := by decide +kernel
theorem d_M_isBest_125 : decode b_M_isBest 125 = .ok (.iload_n 3, 1) := by decide +kernel
theorem d_M_isBest_126 : decode b_M_isBest 126 = .ok (.ireturn, 1) := by decide +kernel
theorem d_M_findHull_0 : decode b_M_findHull 0 = .ok (.aload_n 0, 1) := by decide +kernel
theorem d_M_findHull_1 : decode b_M_findHull 1 = .ok (.iconst 0, 1) := by decide +kernel
theorem d_M_findHull_2 : decode b_M_findHull 2 = .ok (.putfield 98, 3) := by decide +kernel
theorem d_M_findHull_5 : decode b_M_findHull 5 = .ok (.iconst (-1), 1) := by decide +kernel
theorem d_M_findHull_6 : decode b_M_findHull 6 = .ok (.istore_n 2, 1) := by decide +kernel
theorem d_M_findHull_7 : decode b_M_findHull 7 = .ok (.bipush 6, 2) := by decide +kernel
theorem d_M_findHull_9 : decode b_M_findHull 9 = .ok (.iload_n 1, 1) := by decide +kernel
theorem d_M_findHull_10 : decode b_M_findHull 10 = .ok (.imul, 1) := by decide +kernel
theorem d_M_findHull_11 : decode b_M_findHull 11 = .ok (.istore_n 3, 1) := by decide +kernel
theorem d_M_findHull_12 : decode b_M_findHull 12 = .ok (.iload_n 3, 1) := by decide +kernel
theorem d_M_findHull_13 : decode b_M_findHull 13 = .ok (.bipush 6, 2) := by decide +kernel
theorem d_M_findHull_15 : decode b_M_findHull 15 = .ok (.iload_n 1, 1) := by decide +kernel
theorem d_M_findHull_16 : decode b_M_findHull 16 = .ok (.imul, 1) := by decide +kernel
theorem d_M_findHull_17 : decode b_M_findHull 17 = .ok (.aload_n 0, 1) := by decide +kernel
theorem d_M_findHull_18 : decode b_M_findHull 18 = .ok (.getfield 7, 3) := by decide +kernel
theorem d_M_findHull_21 : decode b_M_findHull 21 = .ok (.iload_n 1, 1) := by decide +kernel
theorem d_M_findHull_22 : decode b_M_findHull 22 = .ok (.iaload, 1) := by decide +kernel
theorem d_M_findHull_23 : decode b_M_findHull 23 = .ok (.iadd, 1) := by decide +kernel
theorem d_M_findHull_24 : decode b_M_findHull 24 = .ok (.if_icmp .ge 40, 3) := by decide +kernel
theorem d_M_findHull_27 : decode b_M_findHull 27 = .ok (.aload_n 0, 1) := by decide +kernel
theorem d_M_findHull_28 : decode b_M_findHull 28 = .ok (.iload_n 1, 1) := by decide +kernel
theorem d_M_findHull_29 : decode b_M_findHull 29 = .ok (.iload_n 3, 1) := by decide +kernel
theorem d_M_findHull_30 : decode b_M_findHull 30 = .ok (.invokevirtual 101, 3) := by decide +kernel
theorem d_M_findHull_33 : decode b_M_findHull 33 = .ok (.ifCond .eq 25, 3) := by decide +kernel
theorem d_M_findHull_36 : decode b_M_findHull 36 = .ok (.iload_n 2, 1) := by decide +kernel
theorem d_M_findHull_37 : decode b_M_findHull 37 = .ok (.iconst (-1), 1) := by decide +kernel
theorem d_M_findHull_38 : decode b_M_findHull 38 = .ok (.if_icmp .eq 18, 3) := by decide +kernel
theorem d_M_findHull_41 : decode b_M_findHull 41 = .ok (.aload_n 0, 1) := by decide +kernel
theorem d_M_findHull_42 : decode b_M_findHull 42 = .ok (.getfield 17, 3) := by decide +kernel
theorem d_M_findHull_45 : decode b_M_findHull 45 = .ok (.iload_n 3, 1) := by decide +kernel
theorem d_M_findHull_46 : decode b_M_findHull 46 = .ok (.iaload, 1) := by decide +kernel
theorem d_M_findHull_47 : decode b_M_findHull 47 = .ok (.aload_n 0, 1) := by decide +kernel
theorem d_M_findHull_48 : decode b_M_findHull 48 = .ok (.getfield 17, 3) := by decide +kernel
theorem d_M_findHull_51 : decode b_M_findHull 51 = .ok (.iload_n 2, 1) := by decide +kernel
theorem d_M_findHull_52 : decode b_M_findHull 52 = .ok (.iaload, 1) := by decide +kernel
theorem d_M_findHull_53 : decode b_M_findHull 53 = .ok (.if_icmp .ge 5, 3) := by decide +kernel
theorem d_M_findHull_56 : decode b_M_findHull 56 = .ok (.iload_n 3, 1) := by decide +kernel
theorem d_M_findHull_57 : decode b_M_findHull 57 = .ok (.istore_n 2, 1) := by decide +kernel
theorem d_M_findHull_58 : decode b_M_findHull 58 = .ok (.iinc 3 1, 3) := by decide +kernel
theorem d_M_findHull_61 : decode b_M_findHull 61 = .ok (.goto (-49), 3) := by decide +kernel
theorem d_M_findHull_64 : decode b_M_findHull 64 = .ok (.iload_n 2, 1) := by decide +kernel
theorem d_M_findHull_65 : decode b_M_findHull 65 = .ok (.iconst (-1), 1) := by decide +kernel
theorem d_M_findHull_66 : decode b_M_findHull 66 = .ok (.if_icmp .eq 103, 3) := by decide +kernel
theorem d_M_findHull_69 : decode b_M_findHull 69 = .ok (.aload_n 0, 1) := by decide +kernel
theorem d_M_findHull_70 : decode b_M_findHull 70 = .ok (.getfield 29, 3) := by decide +kernel
theorem d_M_findHull_73 : decode b_M_findHull 73 = .ok (.aload_n 0, 1) := by decide +kernel
theorem d_M_findHull_74 : decode b_M_findHull 74 = .ok (.getfield 98, 3) := by decide +kernel
theorem d_M_findHull_77 : decode b_M_findHull 77 = .ok (.iload_n 2, 1) := by decide +kernel
theorem d_M_findHull_78 : decode b_M_findHull 78 = .ok (.iastore, 1) := by decide +kernel
theorem d_M_findHull_79 : decode b_M_findHull 79 = .ok (.aload_n 0, 1) := by decide +kernel
theorem d_M_findHull_80 : decode b_M_findHull 80 = .ok (.dup, 1) := by decide +kernel
theorem d_M_findHull_81 : decode b_M_findHull 81 = .ok (.getfield 98, 3) := by decide +kernel
theorem d_M_findHull_84 : decode b_M_findHull 84 = .ok (.iconst 1, 1) := by decide +kernel
theorem d_M_findHull_85 : decode b_M_findHull 85 = .ok (.iadd, 1) := by decide +kernel
theorem d_M_findHull_86 : decode b_M_findHull 86 = .ok (.putfield 98, 3) := by decide +kernel
theorem d_M_findHull_89 : decode b_M_findHull 89 = .ok (.iconst (-1), 1) := by decide +kernel
theorem d_M_findHull_90 : decode b_M_findHull 90 = .ok (.istore_n 3, 1) := by decide +kernel
theorem d_M_findHull_91 : decode b_M_findHull 91 = .ok (.bipush 6, 2) := by decide +kernel
theorem d_M_findHull_93 : decode b_M_findHull 93 = .ok (.iload_n 1, 1) := by decide +kernel
theorem d_M_findHull_94 : decode b_M_findHull 94 = .ok (.imul, 1) := by decide +kernel
theorem d_M_findHull_95 : decode b_M_findHull 95 = .ok (.istore 4, 2) := by decide +kernel
theorem d_M_findHull_97 : decode b_M_findHull 97 = .ok (.iload 4, 2) := by decide +kernel
theorem d_M_findHull_99 : decode b_M_findHull 99 = .ok (.bipush 6, 2) := by decide +kernel
theorem d_M_findHull_101 : decode b_M_findHull 101 = .ok (.iload_n 1, 1) := by decide +kernel
theorem d_M_findHull_102 : decode b_M_findHull 102 = .ok (.imul, 1) := by decide +kernel
theorem d_M_findHull_103 : decode b_M_findHull 103 = .ok (.aload_n 0, 1) := by decide +kernel
theorem d_M_findHull_104 : decode b_M_findHull 104 = .ok (.getfield 7, 3) := by decide +kernel
theorem d_M_findHull_107 : decode b_M_findHull 107 = .ok (.iload_n 1, 1) := by decide +kernel
theorem d_M_findHull_108 : decode b_M_findHull 108 = .ok (.iaload, 1) := by decide +kernel
theorem d_M_findHull_109 : decode b_M_findHull 109 = .ok (.iadd, 1) := by decide +kernel
theorem d_M_findHull_110 : decode b_M_findHull 110 = .ok (.if_icmp .ge 54, 3) := by decide +kernel
theorem d_M_findHull_113 : decode b_M_findHull 113 = .ok (.aload_n 0, 1) := by decide +kernel
theorem d_M_findHull_114 : decode b_M_findHull 114 = .ok (.iload_n 1, 1) := by decide +kernel
theorem d_M_findHull_115 : decode b_M_findHull 115 = .ok (.iload 4, 2) := by decide +kernel
theorem d_M_findHull_117 : decode b_M_findHull 117 = .ok (.invokevirtual 101, 3) := by decide +kernel
theorem d_M_findHull_120 : decode b_M_findHull 120 = .ok (.ifCond .eq 38, 3) := by decide +kernel
theorem d_M_findHull_123 : decode b_M_findHull 123 = .ok (.aload_n 0, 1) := by decide +kernel
theorem d_M_findHull_124 : decode b_M_findHull 124 = .ok (.getfield 17, 3) := by decide +kernel
theorem d_M_findHull_127 : decode b_M_findHull 127 = .ok (.iload 4, 2) := by decide +kernel
theorem d_M_findHull_129 : decode b_M_findHull 129 = .ok (.iaload, 1) := by decide +kernel
theorem d_M_findHull_130 : decode b_M_findHull 130 = .ok (.aload_n 0, 1) := by decide +kernel
theorem d_M_findHull_131 : decode b_M_findHull 131 = .ok (.getfield 17, 3) := by decide +kernel
theorem d_M_findHull_134 : decode b_M_findHull 134 = .ok (.iload_n 2, 1) := by decide +kernel
theorem d_M_findHull_135 : decode b_M_findHull 135 = .ok (.iaload, 1) := by decide +kernel
theorem d_M_findHull_136 : decode b_M_findHull 136 = .ok (.if_icmp .le 22, 3) := by decide +kernel
theorem d_M_findHull_139 : decode b_M_findHull 139 = .ok (.iload_n 3, 1) := by decide +kernel
theorem d_M_findHull_140 : decode b_M_findHull 140 = .ok (.iconst (-1), 1) := by decide +kernel
theorem d_M_findHull_141 : decode b_M_findHull 141 = .ok (.if_icmp .eq 14, 3) := by decide +kernel
theorem d_M_findHull_144 : decode b_M_findHull 144 = .ok (.aload_n 0, 1) := by decide +kernel
theorem d_M_findHull_145 : decode b_M_findHull 145 = .ok (.iload_n 2, 1) := by decide +kernel
theorem d_M_findHull_146 : decode b_M_findHull 146 = .ok (.iload 4, 2) := by decide +kernel
theorem d_M_findHull_148 : decode b_M_findHull 148 = .ok (.iload_n 3, 1) := by decide +kernel
theorem d_M_findHull_149 : decode b_M_findHull 149 = .ok (.invokevirtual 104, 3) := by decide +kernel
theorem d_M_findHull_152 : decode b_M_findHull 152 = .ok (.ifCond .eq 6, 3) := by decide +kernel
theorem d_M_findHull_155 : decode b_M_findHull 155 = .ok (.iload 4, 2) := by decide +kernel
theorem d_M_findHull_157 : decode b_M_findHull 157 = .ok (.istore_n 3, 1) := by decide +kernel
theorem d_M_findHull_158 : decode b_M_findHull 158 = .ok (.iinc 4 1, 3) := by decide +kernel
theorem d_M_findHull_161 : decode b_M_findHull 161 = .ok (.goto (-64), 3) := by decide +kernel
theorem d_M_findHull_164 : decode b_M_findHull 164 = .ok (.iload_n 3, 1) := by decide +kernel
theorem d_M_findHull_165 : decode b_M_findHull 165 = .ok (.istore_n 2, 1) := by decide +kernel
theorem d_M_findHull_166 : decode b_M_findHull 166 = .ok (.goto (-102), 3) := by decide +kernel
theorem d_M_findHull_169 : decode b_M_findHull 169 = .ok (.return_, 1) := by decide +kernel
theorem d_M_isSteeper_0 : decode b_M_isSteeper 0 = .ok (.aload_n 0, 1) := by decide +kernel
theorem d_M_isSteeper_1 : decode b_M_isSteeper 1 = .ok (.getfield 20, 3) := by decide +kernel
theorem d_M_isSteeper_4 : decode b_M_isSteeper 4 = .ok (.iload_n 1, 1) := by decide +kernel
theorem d_M_isSteeper_5 : decode b_M_isSteeper 5 = .ok (.iaload, 1) := by decide +kernel
theorem d_M_isSteeper_6 : decode b_M_isSteeper 6 = .ok (.aload_n 0, 1) := by decide +kernel
theorem d_M_isSteeper_7 : decode b_M_isSteeper 7 = .ok (.getfield 20, 3) := by decide +kernel
theorem d_M_isSteeper_10 : decode b_M_isSteeper 10 = .ok (.iload_n 2, 1) := by decide +kernel
theorem d_M_isSteeper_11 : decode b_M_isSteeper 11 = .ok (.iaload, 1) := by decide +kernel
theorem d_M_isSteeper_12 : decode b_M_isSteeper 12 = .ok (.isub, 1) := by decide +kernel
theorem d_M_isSteeper_13 : decode b_M_isSteeper 13 = .ok (.i2l, 1) := by decide +kernel
theorem d_M_isSteeper_14 : decode b_M_isSteeper 14 = .ok (.aload_n 0, 1) := by decide +kernel
theorem d_M_isSteeper_15 : decode b_M_isSteeper 15 = .ok (.getfield 17, 3) := by decide +kernel
theorem d_M_isSteeper_18 : decode b_M_isSteeper 18 = .ok (.iload_n 3, 1) := by decide +kernel
theorem d_M_isSteeper_19 : decode b_M_isSteeper 19 = .ok (.iaload, 1) := by decide +kernel
theorem d_M_isSteeper_20 : decode b_M_isSteeper 20 = .ok (.aload_n 0, 1) := by decide +kernel
theorem d_M_isSteeper_21 : decode b_M_isSteeper 21 = .ok (.getfield 17, 3) := by decide +kernel
theorem d_M_isSteeper_24 : decode b_M_isSteeper 24 = .ok (.iload_n 1, 1) := by decide +kernel
theorem d_M_isSteeper_25 : decode b_M_isSteeper 25 = .ok (.iaload, 1) := by decide +kernel
theorem d_M_isSteeper_26 : decode b_M_isSteeper 26 = .ok (.isub, 1) := by decide +kernel
theorem d_M_isSteeper_27 : decode b_M_isSteeper 27 = .ok (.i2l, 1) := by decide +kernel
theorem d_M_isSteeper_28 : decode b_M_isSteeper 28 = .ok (.lmul, 1) := by decide +kernel
theorem d_M_isSteeper_29 : decode b_M_isSteeper 29 = .ok (.lstore 4, 2) := by decide +kernel
theorem d_M_isSteeper_31 : decode b_M_isSteeper 31 = .ok (.aload_n 0, 1) := by decide +kernel
theorem d_M_isSteeper_32 : decode b_M_isSteeper 32 = .ok (.getfield 20, 3) := by decide +kernel
theorem d_M_isSteeper_35 : decode b_M_isSteeper 35 = .ok (.iload_n 1, 1) := by decide +kernel
theorem d_M_isSteeper_36 : decode b_M_isSteeper 36 = .ok (.iaload, 1) := by decide +kernel
theorem d_M_isSteeper_37 : decode b_M_isSteeper 37 = .ok (.aload_n 0, 1) := by decide +kernel
theorem d_M_isSteeper_38 : decode b_M_isSteeper 38 = .ok (.getfield 20, 3) := by decide +kernel
theorem d_M_isSteeper_41 : decode b_M_isSteeper 41 = .ok (.iload_n 3, 1) := by decide +kernel
theorem d_M_isSteeper_42 : decode b_M_isSteeper 42 = .ok (.iaload, 1) := by decide +kernel
theorem d_M_isSteeper_43 : decode b_M_isSteeper 43 = .ok (.isub, 1) := by decide +kernel
theorem d_M_isSteeper_44 : decode b_M_isSteeper 44 = .ok (.i2l, 1) := by decide +kernel
theorem d_M_isSteeper_45 : decode b_M_isSteeper 45 = .ok (.aload_n 0, 1) := by decide +kernel
theorem d_M_isSteeper_46 : decode b_M_isSteeper 46 = .ok (.getfield 17, 3) := by decide +kernel
theorem d_M_isSteeper_49 : decode b_M_isSteeper 49 = .ok (.iload_n 2, 1) := by decide +kernel
theorem d_M_isSteeper_50 : decode b_M_isSteeper 50 = .ok (.iaload, 1) := by decide +kernel
theorem d_M_isSteeper_51 : decode b_M_isSteeper 51 = .ok (.aload_n 0, 1) := by decide +kernel
theorem d_M_isSteeper_52 : decode b_M_isSteeper 52 = .ok (.getfield 17, 3) := by decide +kernel
theorem d_M_isSteeper_55 : decode b_M_isSteeper 55 = .ok (.iload_n 1, 1) := by decide +kernel
theorem d_M_isSteeper_56 : decode b_M_isSteeper 56 = .ok (.iaload, 1) := by decide +kernel
theorem d_M_isSteeper_57 : decode b_M_isSteeper 57 = .ok (.isub, 1) := by decide +kernel
theorem d_M_isSteeper_58 : decode b_M_isSteeper 58 = .ok (.i2l, 1) := by decide +kernel
theorem d_M_isSteeper_59 : decode b_M_isSteeper 59 = .ok (.lmul, 1) := by decide +kernel
theorem d_M_isSteeper_60 : decode b_M_isSteeper 60 = .ok (.lstore 6, 2) := by decide +kernel
theorem d_M_isSteeper_62 : decode b_M_isSteeper 62 = .ok (.lload 4, 2) := by decide +kernel
theorem d_M_isSteeper_64 : decode b_M_isSteeper 64 = .ok (.lload 6, 2) := by decide +kernel
theorem d_M_isSteeper_66 : decode b_M_isSteeper 66 = .ok (.lcmp, 1) := by decide +kernel
theorem d_M_isSteeper_67 : decode b_M_isSteeper 67 = .ok (.ifCond .gt 26, 3) := by decide +kernel
theorem d_M_isSteeper_70 : decode b_M_isSteeper 70 = .ok (.lload 4, 2) := by decide +kernel
theorem d_M_isSteeper_72 : decode b_M_isSteeper 72 = .ok (.lload 6, 2) := by decide +kernel
theorem d_M_isSteeper_74 : decode b_M_isSteeper 74 = .ok (.lcmp, 1) := by decide +kernel
theorem d_M_isSteeper_75 : decode b_M_isSteeper 75 = .ok (.ifCond .ne 22, 3) := by decide +kernel
theorem d_M_isSteeper_78 : decode b_M_isSteeper 78 = .ok (.aload_n 0, 1) := by decide +kernel
theorem d_M_isSteeper_79 : decode b_M_isSteeper 79 = .ok (.getfield 17, 3) := by decide +kernel
theorem d_M_isSteeper_82 : decode b_M_isSteeper 82 = .ok (.iload_n 2, 1) := by decide +kernel
theorem d_M_isSteeper_83 : decode b_M_isSteeper 83 = .ok (.iaload, 1) := by decide +kernel
theorem d_M_isSteeper_84 : decode b_M_isSteeper 84 = .ok (.aload_n 0, 1) := by decide +kernel
theorem d_M_isSteeper_85 : decode b_M_isSteeper 85 = .ok (.getfield 17, 3) := by decide +kernel
theorem d_M_isSteeper_88 : decode b_M_isSteeper 88 = .ok (.iload_n 3, 1) := by decide +kernel
theorem d_M_isSteeper_89 : decode b_M_isSteeper 89 = .ok (.iaload, 1) := by decide +kernel
theorem d_M_isSteeper_90 : decode b_M_isSteeper 90 = .ok (.if_icmp .le 7, 3) := by decide +kernel
theorem d_M_isSteeper_93 : decode b_M_isSteeper 93 = .ok (.iconst 1, 1) := by decide +kernel
theorem d_M_isSteeper_94 : decode b_M_isSteeper 94 = .ok (.goto 4, 3) := by decide +kernel
theorem d_M_isSteeper_97 : decode b_M_isSteeper 97 = .ok (.iconst 0, 1) := by decide +kernel
theorem d_M_isSteeper_98 : decode b_M_isSteeper 98 = .ok (.ireturn, 1) := by decide +kernel
theorem d_M_hull_0 : decode b_M_hull 0 = .ok (.aload_n 0, 1) := by decide +kernel
theorem d_M_hull_1 : decode b_M_hull 1 = .ok (.aload_n 0, 1) := by decide +kernel
theorem d_M_hull_2 : decode b_M_hull 2 = .ok (.iload_n 1, 1) := by decide +kernel
theorem d_M_hull_3 : decode b_M_hull 3 = .ok (.iload_n 2, 1) := by decide +kernel
theorem d_M_hull_4 : decode b_M_hull 4 = .ok (.invokevirtual 53, 3) := by decide +kernel
theorem d_M_hull_7 : decode b_M_hull 7 = .ok (.ifCond .eq 7, 3) := by decide +kernel
theorem d_M_hull_10 : decode b_M_hull 10 = .ok (.iconst 1, 1) := by decide +kernel
theorem d_M_hull_11 : decode b_M_hull 11 = .ok (.goto 4, 3) := by decide +kernel
theorem d_M_hull_14 : decode b_M_hull 14 = .ok (.iconst 0, 1) := by decide +kernel
theorem d_M_hull_15 : decode b_M_hull 15 = .ok (.invokevirtual 50, 3) := by decide +kernel
theorem d_M_hull_18 : decode b_M_hull 18 = .ok (.ifCond .eq 5, 3) := by decide +kernel
theorem d_M_hull_21 : decode b_M_hull 21 = .ok (.iconst 0, 1) := by decide +kernel
theorem d_M_hull_22 : decode b_M_hull 22 = .ok (.ireturn, 1) := by decide +kernel
theorem d_M_hull_23 : decode b_M_hull 23 = .ok (.aload_n 0, 1) := by decide +kernel
theorem d_M_hull_24 : decode b_M_hull 24 = .ok (.bipush 24, 2) := by decide +kernel
theorem d_M_hull_26 : decode b_M_hull 26 = .ok (.iload_n 1, 1) := by decide +kernel
theorem d_M_hull_27 : decode b_M_hull 27 = .ok (.imul, 1) := by decide +kernel
theorem d_M_hull_28 : decode b_M_hull 28 = .ok (.iload_n 2, 1) := by decide +kernel
theorem d_M_hull_29 : decode b_M_hull 29 = .ok (.iadd, 1) := by decide +kernel
theorem d_M_hull_30 : decode b_M_hull 30 = .ok (.invokevirtual 108, 3) := by decide +kernel
theorem d_M_hull_33 : decode b_M_hull 33 = .ok (.aload_n 0, 1) := by decide +kernel
theorem d_M_hull_34 : decode b_M_hull 34 = .ok (.getfield 98, 3) := by decide +kernel
theorem d_M_hull_37 : decode b_M_hull 37 = .ok (.ireturn, 1) := by decide +kernel
theorem d_M_noneOnHull_0 : decode b_M_noneOnHull 0 = .ok (.aload_n 0, 1) := by decide +kernel
theorem d_M_noneOnHull_1 : decode b_M_noneOnHull 1 = .ok (.iload_n 1, 1) := by decide +kernel
theorem d_M_noneOnHull_2 : decode b_M_noneOnHull 2 = .ok (.iload_n 2, 1) := by decide +kernel
theorem d_M_noneOnHull_3 : decode b_M_noneOnHull 3 = .ok (.invokevirtual 53, 3) := by decide +kernel
theorem d_M_noneOnHull_6 : decode b_M_noneOnHull 6 = .ok (.ifCond .eq 5, 3) := by decide +kernel
theorem d_M_noneOnHull_9 : decode b_M_noneOnHull 9 = .ok (.iconst 1, 1) := by decide +kernel
theorem d_M_noneOnHull_10 : decode b_M_noneOnHull 10 = .ok (.ireturn, 1) := by decide +kernel
theorem d_M_noneOnHull_11 : decode b_M_noneOnHull 11 = .ok (.aload_n 0, 1) := by decide +kernel
theorem d_M_noneOnHull_12 : decode b_M_noneOnHull 12 = .ok (.bipush 24, 2) := by decide +kernel
theorem d_M_noneOnHull_14 : decode b_M_noneOnHull 14 = .ok (.iload_n 1, 1) := by decide +kernel
theorem d_M_noneOnHull_15 : decode b_M_noneOnHull 15 = .ok (.imul, 1) := by decide +kernel
theorem d_M_noneOnHull_16 : decode b_M_noneOnHull 16 = .ok (.iload_n 2, 1) := by decide +kernel
theorem d_M_noneOnHull_17 : decode b_M_noneOnHull 17 = .ok (.iadd, 1) := by decide +kernel
theorem d_M_noneOnHull_18 : decode b_M_noneOnHull 18 = .ok (.invokevirtual 108, 3) := by decide +kernel
theorem d_M_noneOnHull_21 : decode b_M_noneOnHull 21 = .ok (.iload_n 3, 1) := by decide +kernel
theorem d_M_noneOnHull_22 : decode b_M_noneOnHull 22 = .ok (.ifCond .lt 14, 3) := by decide +kernel
theorem d_M_noneOnHull_25 : decode b_M_noneOnHull 25 = .ok (.iload_n 3, 1) := by decide +kernel
theorem d_M_noneOnHull_26 : decode b_M_noneOnHull 26 = .ok (.aload_n 0, 1) := by decide +kernel
theorem d_M_noneOnHull_27 : decode b_M_noneOnHull 27 = .ok (.getfield 98, 3) := by decide +kernel
theorem d_M_noneOnHull_30 : decode b_M_noneOnHull 30 = .ok (.iload 4, 2) := by decide +kernel
theorem d_M_noneOnHull_32 : decode b_M_noneOnHull 32 = .ok (.isub, 1) := by decide +kernel
theorem d_M_noneOnHull_33 : decode b_M_noneOnHull 33 = .ok (.if_icmp .lt 7, 3) := by decide +kernel
theorem d_M_noneOnHull_36 : decode b_M_noneOnHull 36 = .ok (.iconst 1, 1) := by decide +kernel
theorem d_M_noneOnHull_37 : decode b_M_noneOnHull 37 = .ok (.goto 4, 3) := by decide +kernel
theorem d_M_noneOnHull_40 : decode b_M_noneOnHull 40 = .ok (.iconst 0, 1) := by decide +kernel
theorem d_M_noneOnHull_41 : decode b_M_noneOnHull 41 = .ok (.ireturn, 1) := by decide +kernel
theorem d_M_onHull_0 : decode b_M_onHull 0 = .ok (.aload_n 0, 1) := by decide +kernel
theorem d_M_onHull_1 : decode b_M_onHull 1 = .ok (.aload_n 0, 1) := by decide +kernel
theorem d_M_onHull_2 : decode b_M_onHull 2 = .ok (.iload_n 1, 1) := by decide +kernel
theorem d_M_onHull_3 : decode b_M_onHull 3 = .ok (.iload_n 2, 1) := by decide +kernel
theorem d_M_onHull_4 : decode b_M_onHull 4 = .ok (.iload_n 3, 1) := by decide +kernel
theorem d_M_onHull_5 : decode b_M_onHull 5 = .ok (.iconst 0, 1) := by decide +kernel
theorem d_M_onHull_6 : decode b_M_onHull 6 = .ok (.invokevirtual 111, 3) := by decide +kernel
theorem d_M_onHull_9 : decode b_M_onHull 9 = .ok (.ifCond .eq 7, 3) := by decide +kernel
theorem d_M_onHull_12 : decode b_M_onHull 12 = .ok (.iconst 1, 1) := by decide +kernel
theorem d_M_onHull_13 : decode b_M_onHull 13 = .ok (.goto 19, 3) := by decide +kernel
theorem d_M_onHull_16 : decode b_M_onHull 16 = .ok (.iload 4, 2) := by decide +kernel
theorem d_M_onHull_18 : decode b_M_onHull 18 = .ok (.ifCond .eq 13, 3) := by decide +kernel
theorem d_M_onHull_21 : decode b_M_onHull 21 = .ok (.iload 4, 2) := by decide +kernel
theorem d_M_onHull_23 : decode b_M_onHull 23 = .ok (.iconst 1, 1) := by decide +kernel
theorem d_M_onHull_24 : decode b_M_onHull 24 = .ok (.if_icmp .eq 7, 3) := by decide +kernel
theorem d_M_onHull_27 : decode b_M_onHull 27 = .ok (.iconst 2, 1) := by decide +kernel
theorem d_M_onHull_28 : decode b_M_onHull 28 = .ok (.goto 4, 3) := by decide +kernel
theorem d_M_onHull_31 : decode b_M_onHull 31 = .ok (.iconst 0, 1) := by decide +kernel
theorem d_M_onHull_32 : decode b_M_onHull 32 = .ok (.invokevirtual 50, 3) := by decide +kernel
theorem d_M_onHull_35 : decode b_M_onHull 35 = .ok (.ifCond .eq 5, 3) := by decide +kernel
theorem d_M_onHull_38 : decode b_M_onHull 38 = .ok (.iconst 0, 1) := by decide +kernel
theorem d_M_onHull_39 : decode b_M_onHull 39 = .ok (.ireturn, 1) := by decide +kernel
theorem d_M_onHull_40 : decode b_M_onHull 40 = .ok (.iload 4, 2) := by decide +kernel
theorem d_M_onHull_42 : decode b_M_onHull 42 = .ok (.ifCond .ne 17, 3) := by decide +kernel
theorem d_M_onHull_45 : decode b_M_onHull 45 = .ok (.aload_n 0, 1) := by decide +kernel
theorem d_M_onHull_46 : decode b_M_onHull 46 = .ok (.getfield 17, 3) := by decide +kernel
theorem d_M_onHull_49 : decode b_M_onHull 49 = .ok (.aload_n 0, 1) := by decide +kernel
theorem d_M_onHull_50 : decode b_M_onHull 50 = .ok (.getfield 29, 3) := by decide +kernel
theorem d_M_onHull_53 : decode b_M_onHull 53 = .ok (.iload_n 3, 1) := by decide +kernel
theorem d_M_onHull_54 : decode b_M_onHull 54 = .ok (.iaload, 1) := by decide +kernel
theorem d_M_onHull_55 : decode b_M_onHull 55 = .ok (.iaload, 1) := by decide +kernel
theorem d_M_onHull_56 : decode b_M_onHull 56 = .ok (.goto 14, 3) := by decide +kernel
theorem d_M_onHull_59 : decode b_M_onHull 59 = .ok (.aload_n 0, 1) := by decide +kernel
theorem d_M_onHull_60 : decode b_M_onHull 60 = .ok (.getfield 20, 3) := by decide +kernel
theorem d_M_onHull_63 : decode b_M_onHull 63 = .ok (.aload_n 0, 1) := by decide +kernel
theorem d_M_onHull_64 : decode b_M_onHull 64 = .ok (.getfield 29, 3) := by decide +kernel
theorem d_M_onHull_67 : decode b_M_onHull 67 = .ok (.iload_n 3, 1) := by decide +kernel
theorem d_M_onHull_68 : decode b_M_onHull 68 = .ok (.iaload, 1) := by decide +kernel
theorem d_M_onHull_69 : decode b_M_onHull 69 = .ok (.iaload, 1) := by decide +kernel
theorem d_M_onHull_70 : decode b_M_onHull 70 = .ok (.ireturn, 1) := by decide +kernel
theorem d_M_slope_0 : decode b_M_slope 0 = .ok (.aload_n 0, 1) := by decide +kernel
theorem d_M_slope_1 : decode b_M_slope 1 = .ok (.aload_n 0, 1) := by decide +kernel
theorem d_M_slope_2 : decode b_M_slope 2 = .ok (.iload_n 1, 1) := by decide +kernel
theorem d_M_slope_3 : decode b_M_slope 3 = .ok (.iload_n 2, 1) := by decide +kernel
theorem d_M_slope_4 : decode b_M_slope 4 = .ok (.iload_n 3, 1) := by decide +kernel
theorem d_M_slope_5 : decode b_M_slope 5 = .ok (.iconst 1, 1) := by decide +kernel
theorem d_M_slope_6 : decode b_M_slope 6 = .ok (.invokevirtual 111, 3) := by decide +kernel
theorem d_M_slope_9 : decode b_M_slope 9 = .ok (.ifCond .eq 7, 3) := by decide +kernel
theorem d_M_slope_12 : decode b_M_slope 12 = .ok (.iconst 1, 1) := by decide +kernel
theorem d_M_slope_13 : decode b_M_slope 13 = .ok (.goto 4, 3) := by decide +kernel
theorem d_M_slope_16 : decode b_M_slope 16 = .ok (.iconst 0, 1) := by decide +kernel
theorem d_M_slope_17 : decode b_M_slope 17 = .ok (.invokevirtual 50, 3) := by decide +kernel
theorem d_M_slope_20 : decode b_M_slope 20 = .ok (.ifCond .eq 5, 3) := by decide +kernel
theorem d_M_slope_23 : decode b_M_slope 23 = .ok (.lconst 0, 1) := by decide +kernel
theorem d_M_slope_24 : decode b_M_slope 24 = .ok (.lreturn, 1) := by decide +kernel
theorem d_M_slope_25 : decode b_M_slope 25 = .ok (.aload_n 0, 1) := by decide +kernel
theorem d_M_slope_26 : decode b_M_slope 26 = .ok (.getfield 29, 3) := by decide +kernel
theorem d_M_slope_29 : decode b_M_slope 29 = .ok (.iload_n 3, 1) := by decide +kernel
theorem d_M_slope_30 : decode b_M_slope 30 = .ok (.iaload, 1) := by decide +kernel
theorem d_M_slope_31 : decode b_M_slope 31 = .ok (.istore 5, 2) := by decide +kernel
theorem d_M_slope_33 : decode b_M_slope 33 = .ok (.aload_n 0, 1) := by decide +kernel
theorem d_M_slope_34 : decode b_M_slope 34 = .ok (.getfield 29, 3) := by decide +kernel
theorem d_M_slope_37 : decode b_M_slope 37 = .ok (.iload_n 3, 1) := by decide +kernel
theorem d_M_slope_38 : decode b_M_slope 38 = .ok (.iconst 1, 1) := by decide +kernel
theorem d_M_slope_39 : decode b_M_slope 39 = .ok (.iadd, 1) := by decide +kernel
theorem d_M_slope_40 : decode b_M_slope 40 = .ok (.iaload, 1) := by decide +kernel
theorem d_M_slope_41 : decode b_M_slope 41 = .ok (.istore 6, 2) := by decide +kernel
theorem d_M_slope_43 : decode b_M_slope 43 = .ok (.aload_n 0, 1) := by decide +kernel
theorem d_M_slope_44 : decode b_M_slope 44 = .ok (.getfield 20, 3) := by decide +kernel
theorem d_M_slope_47 : decode b_M_slope 47 = .ok (.iload 5, 2) := by decide +kernel
theorem d_M_slope_49 : decode b_M_slope 49 = .ok (.iaload, 1) := by decide +kernel
theorem d_M_slope_50 : decode b_M_slope 50 = .ok (.aload_n 0, 1) := by decide +kernel
theorem d_M_slope_51 : decode b_M_slope 51 = .ok (.getfield 20, 3) := by decide +kernel
theorem d_M_slope_54 : decode b_M_slope 54 = .ok (.iload 6, 2) := by decide +kernel
theorem d_M_slope_56 : decode b_M_slope 56 = .ok (.iaload, 1) := by decide +kernel
theorem d_M_slope_57 : decode b_M_slope 57 = .ok (.isub, 1) := by decide +kernel
theorem d_M_slope_58 : decode b_M_slope 58 = .ok (.i2l, 1) := by decide +kernel
theorem d_M_slope_59 : decode b_M_slope 59 = .ok (.aload_n 0, 1) := by decide +kernel
theorem d_M_slope_60 : decode b_M_slope 60 = .ok (.getfield 17, 3) := by decide +kernel
theorem d_M_slope_63 : decode b_M_slope 63 = .ok (.iload 6, 2) := by decide +kernel
theorem d_M_slope_65 : decode b_M_slope 65 = .ok (.iaload, 1) := by decide +kernel
theorem d_M_slope_66 : decode b_M_slope 66 = .ok (.aload_n 0, 1) := by decide +kernel
theorem d_M_slope_67 : decode b_M_slope 67 = .ok (.getfield 17, 3) := by decide +kernel
theorem d_M_slope_70 : decode b_M_slope 70 = .ok (.iload 5, 2) := by decide +kernel
theorem d_M_slope_72 : decode b_M_slope 72 = .ok (.iaload, 1) := by decide +kernel
theorem d_M_slope_73 : decode b_M_slope 73 = .ok (.isub, 1) := by decide +kernel
theorem d_M_slope_74 : decode b_M_slope 74 = .ok (.i2l, 1) := by decide +kernel
theorem d_M_slope_75 : decode b_M_slope 75 = .ok (.iload 4, 2) := by decide +kernel
theorem d_M_slope_77 : decode b_M_slope 77 = .ok (.invokestatic 91, 3) := by decide +kernel
theorem d_M_slope_80 : decode b_M_slope 80 = .ok (.lreturn, 1) := by decide +kernel
theorem d_M_areBoth_0 : decode b_M_areBoth 0 = .ok (.aload_n 0, 1) := by decide +kernel
theorem d_M_areBoth_1 : decode b_M_areBoth 1 = .ok (.getfield 7, 3) := by decide +kernel
theorem d_M_areBoth_4 : decode b_M_areBoth 4 = .ok (.bipush 24, 2) := by decide +kernel
theorem d_M_areBoth_6 : decode b_M_areBoth 6 = .ok (.iload_n 1, 1) := by decide +kernel
theorem d_M_areBoth_7 : decode b_M_areBoth 7 = .ok (.imul, 1) := by decide +kernel
theorem d_M_areBoth_8 : decode b_M_areBoth 8 = .ok (.iload_n 3, 1) := by decide +kernel
theorem d_M_areBoth_9 : decode b_M_areBoth 9 = .ok (.iadd, 1) := by decide +kernel
theorem d_M_areBoth_10 : decode b_M_areBoth 10 = .ok (.iaload, 1) := by decide +kernel
theorem d_M_areBoth_11 : decode b_M_areBoth 11 = .ok (.ifCond .le 21, 3) := by decide +kernel
theorem d_M_areBoth_14 : decode b_M_areBoth 14 = .ok (.aload_n 0, 1) := by decide +kernel
theorem d_M_areBoth_15 : decode b_M_areBoth 15 = .ok (.getfield 7, 3) := by decide +kernel
theorem d_M_areBoth_18 : decode b_M_areBoth 18 = .ok (.bipush 24, 2) := by decide +kernel
theorem d_M_areBoth_20 : decode b_M_areBoth 20 = .ok (.iload_n 2, 1) := by decide +kernel
theorem d_M_areBoth_21 : decode b_M_areBoth 21 = .ok (.imul, 1) := by decide +kernel
theorem d_M_areBoth_22 : decode b_M_areBoth 22 = .ok (.iload_n 3, 1) := by decide +kernel
theorem d_M_areBoth_23 : decode b_M_areBoth 23 = .ok (.iadd, 1) := by decide +kernel
theorem d_M_areBoth_24 : decode b_M_areBoth 24 = .ok (.iaload, 1) := by decide +kernel
theorem d_M_areBoth_25 : decode b_M_areBoth 25 = .ok (.ifCond .le 7, 3) := by decide +kernel
theorem d_M_areBoth_28 : decode b_M_areBoth 28 = .ok (.iconst 1, 1) := by decide +kernel
theorem d_M_areBoth_29 : decode b_M_areBoth 29 = .ok (.goto 4, 3) := by decide +kernel
theorem d_M_areBoth_32 : decode b_M_areBoth 32 = .ok (.iconst 0, 1) := by decide +kernel
theorem d_M_areBoth_33 : decode b_M_areBoth 33 = .ok (.ireturn, 1) := by decide +kernel
theorem d_M_less_0 : decode b_M_less 0 = .ok (.iconst 0, 1) := by decide +kernel
theorem d_M_less_1 : decode b_M_less 1 = .ok (.istore_n 3, 1) := by decide +kernel
theorem d_M_less_2 : decode b_M_less 2 = .ok (.iconst 0, 1) := by decide +kernel
theorem d_M_less_3 : decode b_M_less 3 = .ok (.istore 4, 2) := by decide +kernel
theorem d_M_less_5 : decode b_M_less 5 = .ok (.iload 4, 2) := by decide +kernel
theorem d_M_less_7 : decode b_M_less 7 = .ok (.aload_n 0, 1) := by decide +kernel
theorem d_M_less_8 : decode b_M_less 8 = .ok (.getfield 47, 3) := by decide +kernel
theorem d_M_less_11 : decode b_M_less 11 = .ok (.if_icmp .ge 53, 3) := by decide +kernel
theorem d_M_less_14 : decode b_M_less 14 = .ok (.iload_n 3, 1) := by decide +kernel
theorem d_M_less_15 : decode b_M_less 15 = .ok (.aload_n 0, 1) := by decide +kernel
theorem d_M_less_16 : decode b_M_less 16 = .ok (.iload_n 1, 1) := by decide +kernel
theorem d_M_less_17 : decode b_M_less 17 = .ok (.iload_n 2, 1) := by decide +kernel
theorem d_M_less_18 : decode b_M_less 18 = .ok (.iload 4, 2) := by decide +kernel
theorem d_M_less_20 : decode b_M_less 20 = .ok (.invokevirtual 115, 3) := by decide +kernel
theorem d_M_less_23 : decode b_M_less 23 = .ok (.ifCond .eq 32, 3) := by decide +kernel
theorem d_M_less_26 : decode b_M_less 26 = .ok (.aload_n 0, 1) := by decide +kernel
theorem d_M_less_27 : decode b_M_less 27 = .ok (.bipush 24, 2) := by decide +kernel
theorem d_M_less_29 : decode b_M_less 29 = .ok (.iload_n 1, 1) := by decide +kernel
theorem d_M_less_30 : decode b_M_less 30 = .ok (.imul, 1) := by decide +kernel
theorem d_M_less_31 : decode b_M_less 31 = .ok (.iload 4, 2) := by decide +kernel
theorem d_M_less_33 : decode b_M_less 33 = .ok (.iadd, 1) := by decide +kernel
theorem d_M_less_34 : decode b_M_less 34 = .ok (.invokevirtual 74, 3) := by decide +kernel
theorem d_M_less_37 : decode b_M_less 37 = .ok (.aload_n 0, 1) := by decide +kernel
theorem d_M_less_38 : decode b_M_less 38 = .ok (.bipush 24, 2) := by decide +kernel
theorem d_M_less_40 : decode b_M_less 40 = .ok (.iload_n 2, 1) := by decide +kernel
theorem d_M_less_41 : decode b_M_less 41 = .ok (.imul, 1) := by decide +kernel
theorem d_M_less_42 : decode b_M_less 42 = .ok (.iload 4, 2) := by decide +kernel
theorem d_M_less_44 : decode b_M_less 44 = .ok (.iadd, 1) := by decide +kernel
theorem d_M_less_45 : decode b_M_less 45 = .ok (.invokevirtual 74, 3) := by decide +kernel
theorem d_M_less_48 : decode b_M_less 48 = .ok (.if_icmp .ge 7, 3) := by decide +kernel
theorem d_M_less_51 : decode b_M_less 51 = .ok (.iconst 1, 1) := by decide +kernel
theorem d_M_less_52 : decode b_M_less 52 = .ok (.goto 4, 3) := by decide +kernel
theorem d_M_less_55 : decode b_M_less 55 = .ok (.iconst 0, 1) := by decide +kernel
theorem d_M_less_56 : decode b_M_less 56 = .ok (.iadd, 1) := by decide +kernel
theorem d_M_less_57 : decode b_M_less 57 = .ok (.istore_n 3, 1) := by decide +kernel
theorem d_M_less_58 : decode b_M_less 58 = .ok (.iinc 4 1, 3) := by decide +kernel
theorem d_M_less_61 : decode b_M_less 61 = .ok (.goto (-56), 3) := by decide +kernel
theorem d_M_less_64 : decode b_M_less 64 = .ok (.iload_n 3, 1) := by decide +kernel
theorem d_M_less_65 : decode b_M_less 65 = .ok (.ireturn, 1) := by decide +kernel
theorem d_M_signs_0 : decode b_M_signs 0 = .ok (.aload_n 0, 1) := by decide +kernel
theorem d_M_signs_1 : decode b_M_signs 1 = .ok (.aload_n 0, 1) := by decide +kernel
theorem d_M_signs_2 : decode b_M_signs 2 = .ok (.iload_n 1, 1) := by decide +kernel
theorem d_M_signs_3 : decode b_M_signs 3 = .ok (.invokevirtual 43, 3) := by decide +kernel
theorem d_M_signs_6 : decode b_M_signs 6 = .ok (.ifCond .ne 11, 3) := by decide +kernel
theorem d_M_signs_9 : decode b_M_signs 9 = .ok (.aload_n 0, 1) := by decide +kernel
theorem d_M_signs_10 : decode b_M_signs 10 = .ok (.iload_n 2, 1) := by decide +kernel
theorem d_M_signs_11 : decode b_M_signs 11 = .ok (.invokevirtual 43, 3) := by decide +kernel
theorem d_M_signs_14 : decode b_M_signs 14 = .ok (.ifCond .eq 7, 3) := by decide +kernel
theorem d_M_signs_17 : decode b_M_signs 17 = .ok (.iconst 1, 1) := by decide +kernel
theorem d_M_signs_18 : decode b_M_signs 18 = .ok (.goto 20, 3) := by decide +kernel
theorem d_M_signs_21 : decode b_M_signs 21 = .ok (.iload_n 3, 1) := by decide +kernel
theorem d_M_signs_22 : decode b_M_signs 22 = .ok (.i2l, 1) := by decide +kernel
theorem d_M_signs_23 : decode b_M_signs 23 = .ok (.lconst 0, 1) := by decide +kernel
theorem d_M_signs_24 : decode b_M_signs 24 = .ok (.ldc2_w 118, 3) := by decide +kernel
theorem d_M_signs_27 : decode b_M_signs 27 = .ok (.invokestatic 59, 3) := by decide +kernel
theorem d_M_signs_30 : decode b_M_signs 30 = .ok (.ifCond .ne 7, 3) := by decide +kernel
theorem d_M_signs_33 : decode b_M_signs 33 = .ok (.iconst 2, 1) := by decide +kernel
theorem d_M_signs_34 : decode b_M_signs 34 = .ok (.goto 4, 3) := by decide +kernel
theorem d_M_signs_37 : decode b_M_signs 37 = .ok (.iconst 0, 1) := by decide +kernel
theorem d_M_signs_38 : decode b_M_signs 38 = .ok (.invokevirtual 50, 3) := by decide +kernel
theorem d_M_signs_41 : decode b_M_signs 41 = .ok (.ifCond .eq 5, 3) := by decide +kernel
theorem d_M_signs_44 : decode b_M_signs 44 = .ok (.lconst 0, 1) := by decide +kernel
theorem d_M_signs_45 : decode b_M_signs 45 = .ok (.lreturn, 1) := by decide +kernel
theorem d_M_signs_46 : decode b_M_signs 46 = .ok (.aload_n 0, 1) := by decide +kernel
theorem d_M_signs_47 : decode b_M_signs 47 = .ok (.iload_n 1, 1) := by decide +kernel
theorem d_M_signs_48 : decode b_M_signs 48 = .ok (.iload_n 2, 1) := by decide +kernel
theorem d_M_signs_49 : decode b_M_signs 49 = .ok (.invokevirtual 120, 3) := by decide +kernel
theorem d_M_signs_52 : decode b_M_signs 52 = .ok (.istore 4, 2) := by decide +kernel
theorem d_M_signs_54 : decode b_M_signs 54 = .ok (.aload_n 0, 1) := by decide +kernel
theorem d_M_signs_55 : decode b_M_signs 55 = .ok (.iload_n 2, 1) := by decide +kernel
theorem d_M_signs_56 : decode b_M_signs 56 = .ok (.iload_n 1, 1) := by decide +kernel
theorem d_M_signs_57 : decode b_M_signs 57 = .ok (.invokevirtual 120, 3) := by decide +kernel
theorem d_M_signs_60 : decode b_M_signs 60 = .ok (.istore 5, 2) := by decide +kernel
theorem d_M_signs_62 : decode b_M_signs 62 = .ok (.iload_n 3, 1) := by decide +kernel
theorem d_M_signs_63 : decode b_M_signs 63 = .ok (.iconst 2, 1) := by decide +kernel
theorem d_M_signs_64 : decode b_M_signs 64 = .ok (.if_icmp .ge 17, 3) := by decide +kernel
theorem d_M_signs_67 : decode b_M_signs 67 = .ok (.iload_n 3, 1) := by decide +kernel
theorem d_M_signs_68 : decode b_M_signs 68 = .ok (.ifCond .ne 9, 3) := by decide +kernel
theorem d_M_signs_71 : decode b_M_signs 71 = .ok (.iload 4, 2) := by decide +kernel
theorem d_M_signs_73 : decode b_M_signs 73 = .ok (.i2l, 1) := by decide +kernel
theorem d_M_signs_74 : decode b_M_signs 74 = .ok (.goto 6, 3) := by decide +kernel
theorem d_M_signs_77 : decode b_M_signs 77 = .ok (.iload 5, 2) := by decide +kernel
theorem d_M_signs_79 : decode b_M_signs 79 = .ok (.i2l, 1) := by decide +kernel
theorem d_M_signs_80 : decode b_M_signs 80 = .ok (.lreturn, 1) := by decide +kernel
theorem d_M_signs_81 : decode b_M_signs 81 = .ok (.iconst 0, 1) := by decide +kernel
theorem d_M_signs_82 : decode b_M_signs 82 = .ok (.istore 6, 2) := by decide +kernel
theorem d_M_signs_84 : decode b_M_signs 84 = .ok (.iload 6, 2) := by decide +kernel
theorem d_M_signs_86 : decode b_M_signs 86 = .ok (.bipush 25, 2) := by decide +kernel
theorem d_M_signs_88 : decode b_M_signs 88 = .ok (.if_icmp .ge 26, 3) := by decide +kernel
theorem d_M_signs_91 : decode b_M_signs 91 = .ok (.aload_n 0, 1) := by decide +kernel
theorem d_M_signs_92 : decode b_M_signs 92 = .ok (.getfield 32, 3) := by decide +kernel
theorem d_M_signs_95 : decode b_M_signs 95 = .ok (.iload 6, 2) := by decide +kernel
theorem d_M_signs_97 : decode b_M_signs 97 = .ok (.iload 6, 2) := by decide +kernel
theorem d_M_signs_99 : decode b_M_signs 99 = .ok (.ifCond .ne 7, 3) := by decide +kernel
theorem d_M_signs_102 : decode b_M_signs 102 = .ok (.lconst 1, 1) := by decide +kernel
theorem d_M_signs_103 : decode b_M_signs 103 = .ok (.goto 4, 3) := by decide +kernel
theorem d_M_signs_106 : decode b_M_signs 106 = .ok (.lconst 0, 1) := by decide +kernel
theorem d_M_signs_107 : decode b_M_signs 107 = .ok (.lastore, 1) := by decide +kernel
theorem d_M_signs_108 : decode b_M_signs 108 = .ok (.iinc 6 1, 3) := by decide +kernel
theorem d_M_signs_111 : decode b_M_signs 111 = .ok (.goto (-27), 3) := by decide +kernel
theorem d_M_signs_114 : decode b_M_signs 114 = .ok (.iconst 1, 1) := by decide +kernel
theorem d_M_signs_115 : decode b_M_signs 115 = .ok (.istore 6, 2) := by decide +kernel
theorem d_M_signs_117 : decode b_M_signs 117 = .ok (.iload 6, 2) := by decide +kernel
theorem d_M_signs_119 : decode b_M_signs 119 = .ok (.iload 4, 2) := by decide +kernel
theorem d_M_signs_121 : decode b_M_signs 121 = .ok (.iload 5, 2) := by decide +kernel
theorem d_M_signs_123 : decode b_M_signs 123 = .ok (.iadd, 1) := by decide +kernel
theorem d_M_signs_124 : decode b_M_signs 124 = .ok (.if_icmp .gt 43, 3) := by decide +kernel
theorem d_M_signs_127 : decode b_M_signs 127 = .ok (.iload 6, 2) := by decide +kernel
theorem d_M_signs_129 : decode b_M_signs 129 = .ok (.istore 7, 2) := by decide +kernel
theorem d_M_signs_131 : decode b_M_signs 131 = .ok (.iload 7, 2) := by decide +kernel
theorem d_M_signs_133 : decode b_M_signs 133 = .ok (.ifCond .le 28, 3) := by decide +kernel
theorem d_M_signs_136 : decode b_M_signs 136 = .ok (.aload_n 0, 1) := by decide +kernel
theorem d_M_signs_137 : decode b_M_signs 137 = .ok (.getfield 32, 3) := by decide +kernel
theorem d_M_signs_140 : decode b_M_signs 140 = .ok (.iload 7, 2) := by decide +kernel
theorem d_M_signs_142 : decode b_M_signs 142 = .ok (.dup2, 1) := by decide +kernel
theorem d_M_signs_143 : decode b_M_signs 143 = .ok (.laload, 1) := by decide +kernel
theorem d_M_signs_144 : decode b_M_signs 144 = .ok (.aload_n 0, 1) := by decide +kernel
theorem d_M_signs_145 : decode b_M_signs 145 = .ok (.getfield 32, 3) := by decide +kernel
theorem d_M_signs_148 : decode b_M_signs 148 = .ok (.iload 7, 2) := by decide +kernel
theorem d_M_signs_150 : decode b_M_signs 150 = .ok (.iconst 1, 1) := by decide +kernel
theorem d_M_signs_151 : decode b_M_signs 151 = .ok (.isub, 1) := by decide +kernel
theorem d_M_signs_152 : decode b_M_signs 152 = .ok (.laload, 1) := by decide +kernel
theorem d_M_signs_153 : decode b_M_signs 153 = .ok (.ladd, 1) := by decide +kernel
theorem d_M_signs_154 : decode b_M_signs 154 = .ok (.lastore, 1) := by decide +kernel
theorem d_M_signs_155 : decode b_M_signs 155 = .ok (.iinc 7 (-1), 3) := by decide +kernel
theorem d_M_signs_158 : decode b_M_signs 158 = .ok (.goto (-27), 3) := by decide +kernel
theorem d_M_signs_161 : decode b_M_signs 161 = .ok (.iinc 6 1, 3) := by decide +kernel
theorem d_M_signs_164 : decode b_M_signs 164 = .ok (.goto (-47), 3) := by decide +kernel
theorem d_M_signs_167 : decode b_M_signs 167 = .ok (.lconst 1, 1) := by decide +kernel
theorem d_M_signs_168 : decode b_M_signs 168 = .ok (.iload 4, 2) := by decide +kernel
theorem d_M_signs_170 : decode b_M_signs 170 = .ok (.iload 5, 2) := by decide +kernel
theorem d_M_signs_172 : decode b_M_signs 172 = .ok (.iadd, 1) := by decide +kernel
theorem d_M_signs_173 : decode b_M_signs 173 = .ok (.lshl, 1) := by decide +kernel
theorem d_M_signs_174 : decode b_M_signs 174 = .ok (.lstore 6, 2) := by decide +kernel
theorem d_M_signs_176 : decode b_M_signs 176 = .ok (.lconst 0, 1) := by decide +kernel
theorem d_M_signs_177 : decode b_M_signs 177 = .ok (.lstore 8, 2) := by decide +kernel
theorem d_M_signs_179 : decode b_M_signs 179 = .ok (.iconst 0, 1) := by decide +kernel
theorem d_M_signs_180 : decode b_M_signs 180 = .ok (.istore 10, 2) := by decide +kernel
theorem d_M_signs_182 : decode b_M_signs 182 = .ok (.iload 10, 2) := by decide +kernel
theorem d_M_signs_184 : decode b_M_signs 184 = .ok (.iload 4, 2) := by decide +kernel
theorem d_M_signs_186 : decode b_M_signs 186 = .ok (.if_icmp .gt 32, 3) := by decide +kernel
theorem d_M_signs_189 : decode b_M_signs 189 = .ok (.iload 10, 2) := by decide +kernel
theorem d_M_signs_191 : decode b_M_signs 191 = .ok (.iload 5, 2) := by decide +kernel
theorem d_M_signs_193 : decode b_M_signs 193 = .ok (.if_icmp .gt 25, 3) := by decide +kernel
theorem d_M_signs_196 : decode b_M_signs 196 = .ok (.lload 8, 2) := by decide +kernel
theorem d_M_signs_198 : decode b_M_signs 198 = .ok (.ldc2_w 124, 3) := by decide +kernel
theorem d_M_signs_201 : decode b_M_signs 201 = .ok (.aload_n 0, 1) := by decide +kernel
theorem d_M_signs_202 : decode b_M_signs 202 = .ok (.getfield 32, 3) := by decide +kernel
theorem d_M_signs_205 : decode b_M_signs 205 = .ok (.iload 10, 2) := by decide +kernel
theorem d_M_signs_207 : decode b_M_signs 207 = .ok (.laload, 1) := by decide +kernel
theorem d_M_signs_208 : decode b_M_signs 208 = .ok (.lmul, 1) := by decide +kernel
theorem d_M_signs_209 : decode b_M_signs 209 = .ok (.ladd, 1) := by decide +kernel
theorem d_M_signs_210 : decode b_M_signs 210 = .ok (.lstore 8, 2) := by decide +kernel
theorem d_M_signs_212 : decode b_M_signs 212 = .ok (.iinc 10 1, 3) := by decide +kernel
theorem d_M_signs_215 : decode b_M_signs 215 = .ok (.goto (-33), 3) := by decide +kernel
theorem d_M_signs_218 : decode b_M_signs 218 = .ok (.lload 8, 2) := by decide +kernel
theorem d_M_signs_220 : decode b_M_signs 220 = .ok (.lload 6, 2) := by decide +kernel
theorem d_M_signs_222 : decode b_M_signs 222 = .ok (.lcmp, 1) := by decide +kernel
theorem d_M_signs_223 : decode b_M_signs 223 = .ok (.ifCond .le 8, 3) := by decide +kernel
theorem d_M_signs_226 : decode b_M_signs 226 = .ok (.lload 6, 2) := by decide +kernel
theorem d_M_signs_228 : decode b_M_signs 228 = .ok (.goto 5, 3) := by decide +kernel
theorem d_M_signs_231 : decode b_M_signs 231 = .ok (.lload 8, 2) := by decide +kernel
theorem d_M_signs_233 : decode b_M_signs 233 = .ok (.lload 6, 2) := by decide +kernel
theorem d_M_signs_235 : decode b_M_signs 235 = .ok (.iload_n 3, 1) := by decide +kernel
theorem d_M_signs_236 : decode b_M_signs 236 = .ok (.iconst 2, 1) := by decide +kernel
theorem d_M_signs_237 : decode b_M_signs 237 = .ok (.if_icmp .ne 7, 3) := by decide +kernel
theorem d_M_signs_240 : decode b_M_signs 240 = .ok (.iconst 1, 1) := by decide +kernel
theorem d_M_signs_241 : decode b_M_signs 241 = .ok (.goto 4, 3) := by decide +kernel
theorem d_M_signs_244 : decode b_M_signs 244 = .ok (.iconst 0, 1) := by decide +kernel
theorem d_M_signs_245 : decode b_M_signs 245 = .ok (.invokestatic 91, 3) := by decide +kernel
theorem d_M_signs_248 : decode b_M_signs 248 = .ok (.lreturn, 1) := by decide +kernel
theorem d_M_draw_0 : decode b_M_draw 0 = .ok (.aload_n 0, 1) := by decide +kernel
theorem d_M_draw_1 : decode b_M_draw 1 = .ok (.aload_n 0, 1) := by decide +kernel
theorem d_M_draw_2 : decode b_M_draw 2 = .ok (.getfield 126, 3) := by decide +kernel
theorem d_M_draw_5 : decode b_M_draw 5 = .ok (.ldc2_w 130, 3) := by decide +kernel
theorem d_M_draw_8 : decode b_M_draw 8 = .ok (.lmul, 1) := by decide +kernel
theorem d_M_draw_9 : decode b_M_draw 9 = .ok (.ldc2_w 132, 3) := by decide +kernel
theorem d_M_draw_12 : decode b_M_draw 12 = .ok (.ladd, 1) := by decide +kernel
theorem d_M_draw_13 : decode b_M_draw 13 = .ok (.putfield 126, 3) := by decide +kernel
theorem d_M_draw_16 : decode b_M_draw 16 = .ok (.aload_n 0, 1) := by decide +kernel
theorem d_M_draw_17 : decode b_M_draw 17 = .ok (.getfield 126, 3) := by decide +kernel
theorem d_M_draw_20 : decode b_M_draw 20 = .ok (.bipush 33, 2) := by decide +kernel
theorem d_M_draw_22 : decode b_M_draw 22 = .ok (.lushr, 1) := by decide +kernel
theorem d_M_draw_23 : decode b_M_draw 23 = .ok (.iload_n 1, 1) := by decide +kernel
theorem d_M_draw_24 : decode b_M_draw 24 = .ok (.i2l, 1) := by decide +kernel
theorem d_M_draw_25 : decode b_M_draw 25 = .ok (.lrem, 1) := by decide +kernel
theorem d_M_draw_26 : decode b_M_draw 26 = .ok (.l2i, 1) := by decide +kernel
theorem d_M_draw_27 : decode b_M_draw 27 = .ok (.ireturn, 1) := by decide +kernel
theorem d_M_both_0 : decode b_M_both 0 = .ok (.iload_n 3, 1) := by decide +kernel
theorem d_M_both_1 : decode b_M_both 1 = .ok (.istore 4, 2) := by decide +kernel
theorem d_M_both_3 : decode b_M_both 3 = .ok (.iconst 0, 1) := by decide +kernel
theorem d_M_both_4 : decode b_M_both 4 = .ok (.istore 5, 2) := by decide +kernel
theorem d_M_both_6 : decode b_M_both 6 = .ok (.iload 4, 2) := by decide +kernel
theorem d_M_both_8 : decode b_M_both 8 = .ok (.ifCond .gt 14, 3) := by decide +kernel
theorem d_M_both_11 : decode b_M_both 11 = .ok (.aload_n 0, 1) := by decide +kernel
theorem d_M_both_12 : decode b_M_both 12 = .ok (.iload_n 1, 1) := by decide +kernel
theorem d_M_both_13 : decode b_M_both 13 = .ok (.iload_n 2, 1) := by decide +kernel
theorem d_M_both_14 : decode b_M_both 14 = .ok (.iload 5, 2) := by decide +kernel
theorem d_M_both_16 : decode b_M_both 16 = .ok (.invokevirtual 115, 3) := by decide +kernel
theorem d_M_both_19 : decode b_M_both 19 = .ok (.ifCond .ne 30, 3) := by decide +kernel
theorem d_M_both_22 : decode b_M_both 22 = .ok (.iload 4, 2) := by decide +kernel
theorem d_M_both_24 : decode b_M_both 24 = .ok (.aload_n 0, 1) := by decide +kernel
theorem d_M_both_25 : decode b_M_both 25 = .ok (.iload_n 1, 1) := by decide +kernel
theorem d_M_both_26 : decode b_M_both 26 = .ok (.iload_n 2, 1) := by decide +kernel
theorem d_M_both_27 : decode b_M_both 27 = .ok (.iload 5, 2) := by decide +kernel
theorem d_M_both_29 : decode b_M_both 29 = .ok (.invokevirtual 115, 3) := by decide +kernel
theorem d_M_both_32 : decode b_M_both 32 = .ok (.ifCond .eq 7, 3) := by decide +kernel
theorem d_M_both_35 : decode b_M_both 35 = .ok (.iconst 1, 1) := by decide +kernel
theorem d_M_both_36 : decode b_M_both 36 = .ok (.goto 4, 3) := by decide +kernel
theorem d_M_both_39 : decode b_M_both 39 = .ok (.iconst 0, 1) := by decide +kernel
theorem d_M_both_40 : decode b_M_both 40 = .ok (.isub, 1) := by decide +kernel
theorem d_M_both_41 : decode b_M_both 41 = .ok (.istore 4, 2) := by decide +kernel
theorem d_M_both_43 : decode b_M_both 43 = .ok (.iinc 5 1, 3) := by decide +kernel
theorem d_M_both_46 : decode b_M_both 46 = .ok (.goto (-40), 3) := by decide +kernel
theorem d_M_both_49 : decode b_M_both 49 = .ok (.iload 5, 2) := by decide +kernel
theorem d_M_both_51 : decode b_M_both 51 = .ok (.ireturn, 1) := by decide +kernel
theorem d_M_draws_0 : decode b_M_draws 0 = .ok (.aload_n 0, 1) := by decide +kernel
theorem d_M_draws_1 : decode b_M_draws 1 = .ok (.iload_n 1, 1) := by decide +kernel
theorem d_M_draws_2 : decode b_M_draws 2 = .ok (.invokevirtual 43, 3) := by decide +kernel
theorem d_M_draws_5 : decode b_M_draws 5 = .ok (.ifCond .ne 11, 3) := by decide +kernel
theorem d_M_draws_8 : decode b_M_draws 8 = .ok (.aload_n 0, 1) := by decide +kernel
theorem d_M_draws_9 : decode b_M_draws 9 = .ok (.iload_n 2, 1) := by decide +kernel
theorem d_M_draws_10 : decode b_M_draws 10 = .ok (.invokevirtual 43, 3) := by decide +kernel
theorem d_M_draws_13 : decode b_M_draws 13 = .ok (.ifCond .eq 7, 3) := by decide +kernel
theorem d_M_draws_16 : decode b_M_draws 16 = .ok (.iconst 1, 1) := by decide +kernel
theorem d_M_draws_17 : decode b_M_draws 17 = .ok (.goto 4, 3) := by decide +kernel
theorem d_M_draws_20 : decode b_M_draws 20 = .ok (.iconst 0, 1) := by decide +kernel
theorem d_M_draws_21 : decode b_M_draws 21 = .ok (.istore 6, 2) := by decide +kernel
theorem d_M_draws_23 : decode b_M_draws 23 = .ok (.iconst 0, 1) := by decide +kernel
theorem d_M_draws_24 : decode b_M_draws 24 = .ok (.istore 7, 2) := by decide +kernel
theorem d_M_draws_26 : decode b_M_draws 26 = .ok (.iconst 0, 1) := by decide +kernel
theorem d_M_draws_27 : decode b_M_draws 27 = .ok (.istore 8, 2) := by decide +kernel
theorem d_M_draws_29 : decode b_M_draws 29 = .ok (.iload 8, 2) := by decide +kernel
theorem d_M_draws_31 : decode b_M_draws 31 = .ok (.aload_n 0, 1) := by decide +kernel
theorem d_M_draws_32 : decode b_M_draws 32 = .ok (.getfield 47, 3) := by decide +kernel
theorem d_M_draws_35 : decode b_M_draws 35 = .ok (.if_icmp .ge 35, 3) := by decide +kernel
theorem d_M_draws_38 : decode b_M_draws 38 = .ok (.iload 6, 2) := by decide +kernel
theorem d_M_draws_40 : decode b_M_draws 40 = .ok (.ifCond .ne 30, 3) := by decide +kernel
theorem d_M_draws_43 : decode b_M_draws 43 = .ok (.iload 7, 2) := by decide +kernel
theorem d_M_draws_45 : decode b_M_draws 45 = .ok (.aload_n 0, 1) := by decide +kernel
theorem d_M_draws_46 : decode b_M_draws 46 = .ok (.iload_n 1, 1) := by decide +kernel
theorem d_M_draws_47 : decode b_M_draws 47 = .ok (.iload_n 2, 1) := by decide +kernel
theorem d_M_draws_48 : decode b_M_draws 48 = .ok (.iload 8, 2) := by decide +kernel
theorem d_M_draws_50 : decode b_M_draws 50 = .ok (.invokevirtual 115, 3) := by decide +kernel
theorem d_M_draws_53 : decode b_M_draws 53 = .ok (.ifCond .eq 7, 3) := by decide +kernel
theorem d_M_draws_56 : decode b_M_draws 56 = .ok (.iconst 1, 1) := by decide +kernel
theorem d_M_draws_57 : decode b_M_draws 57 = .ok (.goto 4, 3) := by decide +kernel
theorem d_M_draws_60 : decode b_M_draws 60 = .ok (.iconst 0, 1) := by decide +kernel
theorem d_M_draws_61 : decode b_M_draws 61 = .ok (.iadd, 1) := by decide +kernel
theorem d_M_draws_62 : decode b_M_draws 62 = .ok (.istore 7, 2) := by decide +kernel
theorem d_M_draws_64 : decode b_M_draws 64 = .ok (.iinc 8 1, 3) := by decide +kernel
theorem d_M_draws_67 : decode b_M_draws 67 = .ok (.goto (-38), 3) := by decide +kernel
theorem d_M_draws_70 : decode b_M_draws 70 = .ok (.aload_n 0, 1) := by decide +kernel
theorem d_M_draws_71 : decode b_M_draws 71 = .ok (.iload 6, 2) := by decide +kernel
theorem d_M_draws_73 : decode b_M_draws 73 = .ok (.ifCond .eq 7, 3) := by decide +kernel
theorem d_M_draws_76 : decode b_M_draws 76 = .ok (.iconst 1, 1) := by decide +kernel
theorem d_M_draws_77 : decode b_M_draws 77 = .ok (.goto 30, 3) := by decide +kernel
theorem d_M_draws_80 : decode b_M_draws 80 = .ok (.iload 5, 2) := by decide +kernel
theorem d_M_draws_82 : decode b_M_draws 82 = .ok (.i2l, 1) := by decide +kernel
theorem d_M_draws_83 : decode b_M_draws 83 = .ok (.lconst 0, 1) := by decide +kernel
theorem d_M_draws_84 : decode b_M_draws 84 = .ok (.ldc2_w 134, 3) := by decide +kernel
theorem d_M_draws_87 : decode b_M_draws 87 = .ok (.invokestatic 59, 3) := by decide +kernel
theorem d_M_draws_90 : decode b_M_draws 90 = .ok (.ifCond .ne 7, 3) := by decide +kernel
theorem d_M_draws_93 : decode b_M_draws 93 = .ok (.iconst 2, 1) := by decide +kernel
theorem d_M_draws_94 : decode b_M_draws 94 = .ok (.goto 13, 3) := by decide +kernel
theorem d_M_draws_97 : decode b_M_draws 97 = .ok (.iload 7, 2) := by decide +kernel
theorem d_M_draws_99 : decode b_M_draws 99 = .ok (.ifCond .ne 7, 3) := by decide +kernel
theorem d_M_draws_102 : decode b_M_draws 102 = .ok (.iconst 3, 1) := by decide +kernel
theorem d_M_draws_103 : decode b_M_draws 103 = .ok (.goto 4, 3) := by decide +kernel
theorem d_M_draws_106 : decode b_M_draws 106 = .ok (.iconst 0, 1) := by decide +kernel
theorem d_M_draws_107 : decode b_M_draws 107 = .ok (.invokevirtual 50, 3) := by decide +kernel
theorem d_M_draws_110 : decode b_M_draws 110 = .ok (.ifCond .eq 5, 3) := by decide +kernel
theorem d_M_draws_113 : decode b_M_draws 113 = .ok (.iconst 0, 1) := by decide +kernel
theorem d_M_draws_114 : decode b_M_draws 114 = .ok (.ireturn, 1) := by decide +kernel
theorem d_M_draws_115 : decode b_M_draws 115 = .ok (.aload_n 0, 1) := by decide +kernel
theorem d_M_draws_116 : decode b_M_draws 116 = .ok (.lload_n 3, 1) := by decide +kernel
theorem d_M_draws_117 : decode b_M_draws 117 = .ok (.putfield 126, 3) := by decide +kernel
theorem d_M_draws_120 : decode b_M_draws 120 = .ok (.iconst 0, 1) := by decide +kernel
theorem d_M_draws_121 : decode b_M_draws 121 = .ok (.istore 8, 2) := by decide +kernel
theorem d_M_draws_123 : decode b_M_draws 123 = .ok (.iconst 0, 1) := by decide +kernel
theorem d_M_draws_124 : decode b_M_draws 124 = .ok (.istore 9, 2) := by decide +kernel
theorem d_M_draws_126 : decode b_M_draws 126 = .ok (.iload 9, 2) := by decide +kernel
theorem d_M_draws_128 : decode b_M_draws 128 = .ok (.iload 5, 2) := by decide +kernel
theorem d_M_draws_130 : decode b_M_draws 130 = .ok (.if_icmp .ge 97, 3) := by decide +kernel
theorem d_M_draws_133 : decode b_M_draws 133 = .ok (.lconst 0, 1) := by decide +kernel
theorem d_M_draws_134 : decode b_M_draws 134 = .ok (.lstore 10, 2) := by decide +kernel
theorem d_M_draws_136 : decode b_M_draws 136 = .ok (.lconst 0, 1) := by decide +kernel
theorem d_M_draws_137 : decode b_M_draws 137 = .ok (.lstore 12, 2) := by decide +kernel
theorem d_M_draws_139 : decode b_M_draws 139 = .ok (.iconst 0, 1) := by decide +kernel
theorem d_M_draws_140 : decode b_M_draws 140 = .ok (.istore 14, 2) := by decide +kernel
theorem d_M_draws_142 : decode b_M_draws 142 = .ok (.iload 14, 2) := by decide +kernel
theorem d_M_draws_144 : decode b_M_draws 144 = .ok (.iload 7, 2) := by decide +kernel
theorem d_M_draws_146 : decode b_M_draws 146 = .ok (.if_icmp .ge 57, 3) := by decide +kernel
theorem d_M_draws_149 : decode b_M_draws 149 = .ok (.aload_n 0, 1) := by decide +kernel
theorem d_M_draws_150 : decode b_M_draws 150 = .ok (.iload_n 1, 1) := by decide +kernel
theorem d_M_draws_151 : decode b_M_draws 151 = .ok (.iload_n 2, 1) := by decide +kernel
theorem d_M_draws_152 : decode b_M_draws 152 = .ok (.aload_n 0, 1) := by decide +kernel
theorem d_M_draws_153 : decode b_M_draws 153 = .ok (.iload 7, 2) := by decide +kernel
theorem d_M_draws_155 : decode b_M_draws 155 = .ok (.invokevirtual 136, 3) := by decide +kernel
theorem d_M_draws_158 : decode b_M_draws 158 = .ok (.invokevirtual 139, 3) := by decide +kernel
theorem d_M_draws_161 : decode b_M_draws 161 = .ok (.istore 15, 2) := by decide +kernel
theorem d_M_draws_163 : decode b_M_draws 163 = .ok (.lload 10, 2) := by decide +kernel
theorem d_M_draws_165 : decode b_M_draws 165 = .ok (.aload_n 0, 1) := by decide +kernel
theorem d_M_draws_166 : decode b_M_draws 166 = .ok (.bipush 24, 2) := by decide +kernel
theorem d_M_draws_168 : decode b_M_draws 168 = .ok (.iload_n 1, 1) := by decide +kernel
theorem d_M_draws_169 : decode b_M_draws 169 = .ok (.imul, 1) := by decide +kernel
theorem d_M_draws_170 : decode b_M_draws 170 = .ok (.iload 15, 2) := by decide +kernel
theorem d_M_draws_172 : decode b_M_draws 172 = .ok (.iadd, 1) := by decide +kernel
theorem d_M_draws_173 : decode b_M_draws 173 = .ok (.invokevirtual 74, 3) := by decide +kernel
theorem d_M_draws_176 : decode b_M_draws 176 = .ok (.i2l, 1) := by decide +kernel
theorem d_M_draws_177 : decode b_M_draws 177 = .ok (.ladd, 1) := by decide +kernel
theorem d_M_draws_178 : decode b_M_draws 178 = .ok (.lstore 10, 2) := by decide +kernel
theorem d_M_draws_180 : decode b_M_draws 180 = .ok (.lload 12, 2) := by decide +kernel
theorem d_M_draws_182 : decode b_M_draws 182 = .ok (.aload_n 0, 1) := by decide +kernel
theorem d_M_draws_183 : decode b_M_draws 183 = .ok (.bipush 24, 2) := by decide +kernel
theorem d_M_draws_185 : decode b_M_draws 185 = .ok (.iload_n 2, 1) := by decide +kernel
theorem d_M_draws_186 : decode b_M_draws 186 = .ok (.imul, 1) := by decide +kernel
theorem d_M_draws_187 : decode b_M_draws 187 = .ok (.iload 15, 2) := by decide +kernel
theorem d_M_draws_189 : decode b_M_draws 189 = .ok (.iadd, 1) := by decide +kernel
theorem d_M_draws_190 : decode b_M_draws 190 = .ok (.invokevirtual 74, 3) := by decide +kernel
theorem d_M_draws_193 : decode b_M_draws 193 = .ok (.i2l, 1) := by decide +kernel
theorem d_M_draws_194 : decode b_M_draws 194 = .ok (.ladd, 1) := by decide +kernel
theorem d_M_draws_195 : decode b_M_draws 195 = .ok (.lstore 12, 2) := by decide +kernel
theorem d_M_draws_197 : decode b_M_draws 197 = .ok (.iinc 14 1, 3) := by decide +kernel
theorem d_M_draws_200 : decode b_M_draws 200 = .ok (.goto (-58), 3) := by decide +kernel
theorem d_M_draws_203 : decode b_M_draws 203 = .ok (.iload 8, 2) := by decide +kernel
theorem d_M_draws_205 : decode b_M_draws 205 = .ok (.lload 10, 2) := by decide +kernel
theorem d_M_draws_207 : decode b_M_draws 207 = .ok (.lload 12, 2) := by decide +kernel
theorem d_M_draws_209 : decode b_M_draws 209 = .ok (.lcmp, 1) := by decide +kernel
theorem d_M_draws_210 : decode b_M_draws 210 = .ok (.ifCond .ge 7, 3) := by decide +kernel
theorem d_M_draws_213 : decode b_M_draws 213 = .ok (.iconst 1, 1) := by decide +kernel
theorem d_M_draws_214 : decode b_M_draws 214 = .ok (.goto 4, 3) := by decide +kernel
theorem d_M_draws_217 : decode b_M_draws 217 = .ok (.iconst 0, 1) := by decide +kernel
theorem d_M_draws_218 : decode b_M_draws 218 = .ok (.iadd, 1) := by decide +kernel
theorem d_M_draws_219 : decode b_M_draws 219 = .ok (.istore 8, 2) := by decide +kernel
theorem d_M_draws_221 : decode b_M_draws 221 = .ok (.iinc 9 1, 3) := by decide +kernel
theorem d_M_draws_224 : decode b_M_draws 224 = .ok (.goto (-98), 3) := by decide +kernel
theorem d_M_draws_227 : decode b_M_draws 227 = .ok (.iload 8, 2) := by decide +kernel
theorem d_M_draws_229 : decode b_M_draws 229 = .ok (.ireturn, 1) := by decide +kernel
theorem d_M_fill_0 : decode b_M_fill 0 = .ok (.aload_n 0, 1) := by decide +kernel
theorem d_M_fill_1 : decode b_M_fill 1 = .ok (.iconst 0, 1) := by decide +kernel
theorem d_M_fill_2 : decode b_M_fill 2 = .ok (.putfield 36, 3) := by decide +kernel
theorem d_M_fill_5 : decode b_M_fill 5 = .ok (.aload_n 0, 1) := by decide +kernel
theorem d_M_fill_6 : decode b_M_fill 6 = .ok (.lload_n 1, 1) := by decide +kernel
theorem d_M_fill_7 : decode b_M_fill 7 = .ok (.putfield 126, 3) := by decide +kernel
theorem d_M_fill_10 : decode b_M_fill 10 = .ok (.aload_n 0, 1) := by decide +kernel
theorem d_M_fill_11 : decode b_M_fill 11 = .ok (.iconst 0, 1) := by decide +kernel
theorem d_M_fill_12 : decode b_M_fill 12 = .ok (.putfield 67, 3) := by decide +kernel
theorem d_M_fill_15 : decode b_M_fill 15 = .ok (.iconst 0, 1) := by decide +kernel
theorem d_M_fill_16 : decode b_M_fill 16 = .ok (.istore_n 3, 1) := by decide +kernel
theorem d_M_fill_17 : decode b_M_fill 17 = .ok (.iload_n 3, 1) := by decide +kernel
theorem d_M_fill_18 : decode b_M_fill 18 = .ok (.sipush 192, 3) := by decide +kernel
theorem d_M_fill_21 : decode b_M_fill 21 = .ok (.if_icmp .ge 23, 3) := by decide +kernel
theorem d_M_fill_24 : decode b_M_fill 24 = .ok (.aload_n 0, 1) := by decide +kernel
theorem d_M_fill_25 : decode b_M_fill 25 = .ok (.getfield 7, 3) := by decide +kernel
theorem d_M_fill_28 : decode b_M_fill 28 = .ok (.iload_n 3, 1) := by decide +kernel
theorem d_M_fill_29 : decode b_M_fill 29 = .ok (.iconst 0, 1) := by decide +kernel
theorem d_M_fill_30 : decode b_M_fill 30 = .ok (.iastore, 1) := by decide +kernel
theorem d_M_fill_31 : decode b_M_fill 31 = .ok (.aload_n 0, 1) := by decide +kernel
theorem d_M_fill_32 : decode b_M_fill 32 = .ok (.getfield 13, 3) := by decide +kernel
theorem d_M_fill_35 : decode b_M_fill 35 = .ok (.iload_n 3, 1) := by decide +kernel
theorem d_M_fill_36 : decode b_M_fill 36 = .ok (.iconst 0, 1) := by decide +kernel
theorem d_M_fill_37 : decode b_M_fill 37 = .ok (.bastore, 1) := by decide +kernel
theorem d_M_fill_38 : decode b_M_fill 38 = .ok (.iinc 3 1, 3) := by decide +kernel
theorem d_M_fill_41 : decode b_M_fill 41 = .ok (.goto (-24), 3) := by decide +kernel
theorem d_M_fill_44 : decode b_M_fill 44 = .ok (.iconst 0, 1) := by decide +kernel
theorem d_M_fill_45 : decode b_M_fill 45 = .ok (.istore_n 3, 1) := by decide +kernel
theorem d_M_fill_46 : decode b_M_fill 46 = .ok (.iload_n 3, 1) := by decide +kernel
theorem d_M_fill_47 : decode b_M_fill 47 = .ok (.aload_n 0, 1) := by decide +kernel
theorem d_M_fill_48 : decode b_M_fill 48 = .ok (.getfield 40, 3) := by decide +kernel
theorem d_M_fill_51 : decode b_M_fill 51 = .ok (.if_icmp .ge 38, 3) := by decide +kernel
theorem d_M_fill_54 : decode b_M_fill 54 = .ok (.iconst 0, 1) := by decide +kernel
theorem d_M_fill_55 : decode b_M_fill 55 = .ok (.istore 4, 2) := by decide +kernel
theorem d_M_fill_57 : decode b_M_fill 57 = .ok (.iload 4, 2) := by decide +kernel
theorem d_M_fill_59 : decode b_M_fill 59 = .ok (.aload_n 0, 1) := by decide +kernel
theorem d_M_fill_60 : decode b_M_fill 60 = .ok (.getfield 47, 3) := by decide +kernel
theorem d_M_fill_63 : decode b_M_fill 63 = .ok (.if_icmp .ge 20, 3) := by decide +kernel
theorem d_M_fill_66 : decode b_M_fill 66 = .ok (.aload_n 0, 1) := by decide +kernel
theorem d_M_fill_67 : decode b_M_fill 67 = .ok (.bipush 24, 2) := by decide +kernel
theorem d_M_fill_69 : decode b_M_fill 69 = .ok (.iload_n 3, 1) := by decide +kernel
theorem d_M_fill_70 : decode b_M_fill 70 = .ok (.imul, 1) := by decide +kernel
theorem d_M_fill_71 : decode b_M_fill 71 = .ok (.iload 4, 2) := by decide +kernel
theorem d_M_fill_73 : decode b_M_fill 73 = .ok (.iadd, 1) := by decide +kernel
theorem d_M_fill_74 : decode b_M_fill 74 = .ok (.invokevirtual 143, 3) := by decide +kernel
theorem d_M_fill_77 : decode b_M_fill 77 = .ok (.iinc 4 1, 3) := by decide +kernel
theorem d_M_fill_80 : decode b_M_fill 80 = .ok (.goto (-23), 3) := by decide +kernel
theorem d_M_fill_83 : decode b_M_fill 83 = .ok (.iinc 3 1, 3) := by decide +kernel
theorem d_M_fill_86 : decode b_M_fill 86 = .ok (.goto (-40), 3) := by decide +kernel
theorem d_M_fill_89 : decode b_M_fill 89 = .ok (.aload_n 0, 1) := by decide +kernel
theorem d_M_fill_90 : decode b_M_fill 90 = .ok (.invokevirtual 146, 3) := by decide +kernel
theorem d_M_fill_93 : decode b_M_fill 93 = .ok (.ireturn, 1) := by decide +kernel
theorem d_M_fillPair_0 : decode b_M_fillPair 0 = .ok (.aload_n 0, 1) := by decide +kernel
theorem d_M_fillPair_1 : decode b_M_fillPair 1 = .ok (.bipush 9, 2) := by decide +kernel
theorem d_M_fillPair_3 : decode b_M_fillPair 3 = .ok (.invokevirtual 136, 3) := by decide +kernel
theorem d_M_fillPair_6 : decode b_M_fillPair 6 = .ok (.bipush 8, 2) := by decide +kernel
theorem d_M_fillPair_8 : decode b_M_fillPair 8 = .ok (.if_icmp .ne 9, 3) := by decide +kernel
theorem d_M_fillPair_11 : decode b_M_fillPair 11 = .ok (.aload_n 0, 1) := by decide +kernel
theorem d_M_fillPair_12 : decode b_M_fillPair 12 = .ok (.iload_n 1, 1) := by decide +kernel
theorem d_M_fillPair_13 : decode b_M_fillPair 13 = .ok (.invokevirtual 70, 3) := by decide +kernel
theorem d_M_fillPair_16 : decode b_M_fillPair 16 = .ok (.return_, 1) := by decide +kernel
theorem d_M_fillPair_17 : decode b_M_fillPair 17 = .ok (.aload_n 0, 1) := by decide +kernel
theorem d_M_fillPair_18 : decode b_M_fillPair 18 = .ok (.bipush 7, 2) := by decide +kernel
theorem d_M_fillPair_20 : decode b_M_fillPair 20 = .ok (.invokevirtual 136, 3) := by decide +kernel
theorem d_M_fillPair_23 : decode b_M_fillPair 23 = .ok (.istore_n 2, 1) := by decide +kernel
theorem d_M_fillPair_24 : decode b_M_fillPair 24 = .ok (.iconst 0, 1) := by decide +kernel
theorem d_M_fillPair_25 : decode b_M_fillPair 25 = .ok (.istore_n 3, 1) := by decide +kernel
theorem d_M_fillPair_26 : decode b_M_fillPair 26 = .ok (.iload_n 3, 1) := by decide +kernel
theorem d_M_fillPair_27 : decode b_M_fillPair 27 = .ok (.iload_n 2, 1) := by decide +kernel
theorem d_M_fillPair_28 : decode b_M_fillPair 28 = .ok (.if_icmp .ge 34, 3) := by decide +kernel
theorem d_M_fillPair_31 : decode b_M_fillPair 31 = .ok (.aload_n 0, 1) := by decide +kernel
theorem d_M_fillPair_32 : decode b_M_fillPair 32 = .ok (.sipush 1000, 3) := by decide +kernel
theorem d_M_fillPair_35 : decode b_M_fillPair 35 = .ok (.invokevirtual 136, 3) := by decide +kernel
theorem d_M_fillPair_38 : decode b_M_fillPair 38 = .ok (.iconst 1, 1) := by decide +kernel
theorem d_M_fillPair_39 : decode b_M_fillPair 39 = .ok (.iadd, 1) := by decide +kernel
theorem d_M_fillPair_40 : decode b_M_fillPair 40 = .ok (.istore 4, 2) := by decide +kernel
theorem d_M_fillPair_42 : decode b_M_fillPair 42 = .ok (.aload_n 0, 1) := by decide +kernel
theorem d_M_fillPair_43 : decode b_M_fillPair 43 = .ok (.iload_n 1, 1) := by decide +kernel
theorem d_M_fillPair_44 : decode b_M_fillPair 44 = .ok (.iload 4, 2) := by decide +kernel
theorem d_M_fillPair_46 : decode b_M_fillPair 46 = .ok (.aload_n 0, 1) := by decide +kernel
theorem d_M_fillPair_47 : decode b_M_fillPair 47 = .ok (.sipush 1000, 3) := by decide +kernel
theorem d_M_fillPair_50 : decode b_M_fillPair 50 = .ok (.invokevirtual 136, 3) := by decide +kernel
theorem d_M_fillPair_53 : decode b_M_fillPair 53 = .ok (.invokevirtual 63, 3) := by decide +kernel
theorem d_M_fillPair_56 : decode b_M_fillPair 56 = .ok (.iinc 3 1, 3) := by decide +kernel
theorem d_M_fillPair_59 : decode b_M_fillPair 59 = .ok (.goto (-33), 3) := by decide +kernel
theorem d_M_fillPair_62 : decode b_M_fillPair 62 = .ok (.return_, 1) := by decide +kernel
theorem d_M_points_0 : decode b_M_points 0 = .ok (.iconst 0, 1) := by decide +kernel
theorem d_M_points_1 : decode b_M_points 1 = .ok (.istore_n 1, 1) := by decide +kernel
theorem d_M_points_2 : decode b_M_points 2 = .ok (.iconst 0, 1) := by decide +kernel
theorem d_M_points_3 : decode b_M_points 3 = .ok (.istore_n 2, 1) := by decide +kernel
theorem d_M_points_4 : decode b_M_points 4 = .ok (.iload_n 2, 1) := by decide +kernel
theorem d_M_points_5 : decode b_M_points 5 = .ok (.sipush 192, 3) := by decide +kernel
theorem d_M_points_8 : decode b_M_points 8 = .ok (.if_icmp .ge 18, 3) := by decide +kernel
theorem d_M_points_11 : decode b_M_points 11 = .ok (.iload_n 1, 1) := by decide +kernel
theorem d_M_points_12 : decode b_M_points 12 = .ok (.aload_n 0, 1) := by decide +kernel
theorem d_M_points_13 : decode b_M_points 13 = .ok (.getfield 7, 3) := by decide +kernel
theorem d_M_points_16 : decode b_M_points 16 = .ok (.iload_n 2, 1) := by decide +kernel
theorem d_M_points_17 : decode b_M_points 17 = .ok (.iaload, 1) := by decide +kernel
theorem d_M_points_18 : decode b_M_points 18 = .ok (.iadd, 1) := by decide +kernel
theorem d_M_points_19 : decode b_M_points 19 = .ok (.istore_n 1, 1) := by decide +kernel
theorem d_M_points_20 : decode b_M_points 20 = .ok (.iinc 2 1, 3) := by decide +kernel
theorem d_M_points_23 : decode b_M_points 23 = .ok (.goto (-19), 3) := by decide +kernel
theorem d_M_points_26 : decode b_M_points 26 = .ok (.iload_n 1, 1) := by decide +kernel
theorem d_M_points_27 : decode b_M_points 27 = .ok (.ireturn, 1) := by decide +kernel
theorem d_M_type_0 : decode b_M_type 0 = .ok (.aload_n 0, 1) := by decide +kernel
theorem d_M_type_1 : decode b_M_type 1 = .ok (.getfield 26, 3) := by decide +kernel
theorem d_M_type_4 : decode b_M_type 4 = .ok (.aload_n 0, 1) := by decide +kernel
theorem d_M_type_5 : decode b_M_type 5 = .ok (.getfield 150, 3) := by decide +kernel
theorem d_M_type_8 : decode b_M_type 8 = .ok (.iload_n 1, 1) := by decide +kernel
theorem d_M_type_9 : decode b_M_type 9 = .ok (.iastore, 1) := by decide +kernel
theorem d_M_type_10 : decode b_M_type 10 = .ok (.aload_n 0, 1) := by decide +kernel
theorem d_M_type_11 : decode b_M_type 11 = .ok (.dup, 1) := by decide +kernel
theorem d_M_type_12 : decode b_M_type 12 = .ok (.getfield 150, 3) := by decide +kernel
theorem d_M_type_15 : decode b_M_type 15 = .ok (.iconst 1, 1) := by decide +kernel
theorem d_M_type_16 : decode b_M_type 16 = .ok (.iadd, 1) := by decide +kernel
theorem d_M_type_17 : decode b_M_type 17 = .ok (.putfield 150, 3) := by decide +kernel
theorem d_M_type_20 : decode b_M_type 20 = .ok (.return_, 1) := by decide +kernel
theorem d_M_typeNumber_0 : decode b_M_typeNumber 0 = .ok (.lconst 1, 1) := by decide +kernel
theorem d_M_typeNumber_1 : decode b_M_typeNumber 1 = .ok (.lstore_n 3, 1) := by decide +kernel
theorem d_M_typeNumber_2 : decode b_M_typeNumber 2 = .ok (.lload_n 1, 1) := by decide +kernel
theorem d_M_typeNumber_3 : decode b_M_typeNumber 3 = .ok (.lload_n 3, 1) := by decide +kernel
theorem d_M_typeNumber_4 : decode b_M_typeNumber 4 = .ok (.ldiv, 1) := by decide +kernel
theorem d_M_typeNumber_5 : decode b_M_typeNumber 5 = .ok (.ldc2_w 153, 3) := by decide +kernel
theorem d_M_typeNumber_8 : decode b_M_typeNumber 8 = .ok (.lcmp, 1) := by decide +kernel
theorem d_M_typeNumber_9 : decode b_M_typeNumber 9 = .ok (.ifCond .le 12, 3) := by decide +kernel
theorem d_M_typeNumber_12 : decode b_M_typeNumber 12 = .ok (.ldc2_w 155, 3) := by decide +kernel
theorem d_M_typeNumber_15 : decode b_M_typeNumber 15 = .ok (.lload_n 3, 1) := by decide +kernel
theorem d_M_typeNumber_16 : decode b_M_typeNumber 16 = .ok (.lmul, 1) := by decide +kernel
theorem d_M_typeNumber_17 : decode b_M_typeNumber 17 = .ok (.lstore_n 3, 1) := by decide +kernel
theorem d_M_typeNumber_18 : decode b_M_typeNumber 18 = .ok (.goto (-16), 3) := by decide +kernel
theorem d_M_typeNumber_21 : decode b_M_typeNumber 21 = .ok (.lload_n 3, 1) := by decide +kernel
theorem d_M_typeNumber_22 : decode b_M_typeNumber 22 = .ok (.lconst 0, 1) := by decide +kernel
theorem d_M_typeNumber_23 : decode b_M_typeNumber 23 = .ok (.lcmp, 1) := by decide +kernel
theorem d_M_typeNumber_24 : decode b_M_typeNumber 24 = .ok (.ifCond .le 27, 3) := by decide +kernel
theorem d_M_typeNumber_27 : decode b_M_typeNumber 27 = .ok (.aload_n 0, 1) := by decide +kernel
theorem d_M_typeNumber_28 : decode b_M_typeNumber 28 = .ok (.bipush 48, 2) := by decide +kernel
theorem d_M_typeNumber_30 : decode b_M_typeNumber 30 = .ok (.lload_n 1, 1) := by decide +kernel
theorem d_M_typeNumber_31 : decode b_M_typeNumber 31 = .ok (.lload_n 3, 1) := by decide +kernel
theorem d_M_typeNumber_32 : decode b_M_typeNumber 32 = .ok (.ldiv, 1) := by decide +kernel
theorem d_M_typeNumber_33 : decode b_M_typeNumber 33 = .ok (.ldc2_w 155, 3) := by decide +kernel
theorem d_M_typeNumber_36 : decode b_M_typeNumber 36 = .ok (.lrem, 1) := by decide +kernel
theorem d_M_typeNumber_37 : decode b_M_typeNumber 37 = .ok (.l2i, 1) := by decide +kernel
theorem d_M_typeNumber_38 : decode b_M_typeNumber 38 = .ok (.iadd, 1) := by decide +kernel
theorem d_M_typeNumber_39 : decode b_M_typeNumber 39 = .ok (.invokevirtual 157, 3) := by decide +kernel
theorem d_M_typeNumber_42 : decode b_M_typeNumber 42 = .ok (.lload_n 3, 1) := by decide +kernel
theorem d_M_typeNumber_43 : decode b_M_typeNumber 43 = .ok (.ldc2_w 155, 3) := by decide +kernel
theorem d_M_typeNumber_46 : decode b_M_typeNumber 46 = .ok (.ldiv, 1) := by decide +kernel
theorem d_M_typeNumber_47 : decode b_M_typeNumber 47 = .ok (.lstore_n 3, 1) := by decide +kernel
theorem d_M_typeNumber_48 : decode b_M_typeNumber 48 = .ok (.goto (-27), 3) := by decide +kernel
theorem d_M_typeNumber_51 : decode b_M_typeNumber 51 = .ok (.return_, 1) := by decide +kernel
theorem d_M_text_0 : decode b_M_text 0 = .ok (.aload_n 0, 1) := by decide +kernel
theorem d_M_text_1 : decode b_M_text 1 = .ok (.iconst 0, 1) := by decide +kernel
theorem d_M_text_2 : decode b_M_text 2 = .ok (.putfield 36, 3) := by decide +kernel
theorem d_M_text_5 : decode b_M_text 5 = .ok (.aload_n 0, 1) := by decide +kernel
theorem d_M_text_6 : decode b_M_text 6 = .ok (.iconst 0, 1) := by decide +kernel
theorem d_M_text_7 : decode b_M_text 7 = .ok (.putfield 150, 3) := by decide +kernel
theorem d_M_text_10 : decode b_M_text 10 = .ok (.iconst 0, 1) := by decide +kernel
theorem d_M_text_11 : decode b_M_text 11 = .ok (.istore_n 1, 1) := by decide +kernel
theorem d_M_text_12 : decode b_M_text 12 = .ok (.iload_n 1, 1) := by decide +kernel
theorem d_M_text_13 : decode b_M_text 13 = .ok (.aload_n 0, 1) := by decide +kernel
theorem d_M_text_14 : decode b_M_text 14 = .ok (.getfield 40, 3) := by decide +kernel
theorem d_M_text_17 : decode b_M_text 17 = .ok (.if_icmp .ge 69, 3) := by decide +kernel
theorem d_M_text_20 : decode b_M_text 20 = .ok (.aload_n 0, 1) := by decide +kernel
theorem d_M_text_21 : decode b_M_text 21 = .ok (.iload_n 1, 1) := by decide +kernel
theorem d_M_text_22 : decode b_M_text 22 = .ok (.i2l, 1) := by decide +kernel
theorem d_M_text_23 : decode b_M_text 23 = .ok (.invokevirtual 160, 3) := by decide +kernel
theorem d_M_text_26 : decode b_M_text 26 = .ok (.aload_n 0, 1) := by decide +kernel
theorem d_M_text_27 : decode b_M_text 27 = .ok (.bipush 32, 2) := by decide +kernel
theorem d_M_text_29 : decode b_M_text 29 = .ok (.invokevirtual 157, 3) := by decide +kernel
theorem d_M_text_32 : decode b_M_text 32 = .ok (.aload_n 0, 1) := by decide +kernel
theorem d_M_text_33 : decode b_M_text 33 = .ok (.iload_n 1, 1) := by decide +kernel
theorem d_M_text_34 : decode b_M_text 34 = .ok (.invokevirtual 78, 3) := by decide +kernel
theorem d_M_text_37 : decode b_M_text 37 = .ok (.ifCond .le 31, 3) := by decide +kernel
theorem d_M_text_40 : decode b_M_text 40 = .ok (.aload_n 0, 1) := by decide +kernel
theorem d_M_text_41 : decode b_M_text 41 = .ok (.aload_n 0, 1) := by decide +kernel
theorem d_M_text_42 : decode b_M_text 42 = .ok (.iload_n 1, 1) := by decide +kernel
theorem d_M_text_43 : decode b_M_text 43 = .ok (.invokevirtual 83, 3) := by decide +kernel
theorem d_M_text_46 : decode b_M_text 46 = .ok (.invokevirtual 160, 3) := by decide +kernel
theorem d_M_text_49 : decode b_M_text 49 = .ok (.aload_n 0, 1) := by decide +kernel
theorem d_M_text_50 : decode b_M_text 50 = .ok (.bipush 32, 2) := by decide +kernel
theorem d_M_text_52 : decode b_M_text 52 = .ok (.invokevirtual 157, 3) := by decide +kernel
theorem d_M_text_55 : decode b_M_text 55 = .ok (.aload_n 0, 1) := by decide +kernel
theorem d_M_text_56 : decode b_M_text 56 = .ok (.aload_n 0, 1) := by decide +kernel
theorem d_M_text_57 : decode b_M_text 57 = .ok (.iload_n 1, 1) := by decide +kernel
theorem d_M_text_58 : decode b_M_text 58 = .ok (.invokevirtual 95, 3) := by decide +kernel
theorem d_M_text_61 : decode b_M_text 61 = .ok (.i2l, 1) := by decide +kernel
theorem d_M_text_62 : decode b_M_text 62 = .ok (.invokevirtual 160, 3) := by decide +kernel
theorem d_M_text_65 : decode b_M_text 65 = .ok (.goto 9, 3) := by decide +kernel
theorem d_M_text_68 : decode b_M_text 68 = .ok (.aload_n 0, 1) := by decide +kernel
theorem d_M_text_69 : decode b_M_text 69 = .ok (.bipush 45, 2) := by decide +kernel
theorem d_M_text_71 : decode b_M_text 71 = .ok (.invokevirtual 157, 3) := by decide +kernel
theorem d_M_text_74 : decode b_M_text 74 = .ok (.aload_n 0, 1) := by decide +kernel
