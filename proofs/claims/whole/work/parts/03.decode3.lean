theorem d_M_text_75 : decode b_M_text 75 = .ok (.bipush 10, 2) := by decide +kernel
theorem d_M_text_77 : decode b_M_text 77 = .ok (.invokevirtual 157, 3) := by decide +kernel
theorem d_M_text_80 : decode b_M_text 80 = .ok (.iinc 1 1, 3) := by decide +kernel
theorem d_M_text_83 : decode b_M_text 83 = .ok (.goto (-71), 3) := by decide +kernel
theorem d_M_text_86 : decode b_M_text 86 = .ok (.aload_n 0, 1) := by decide +kernel
theorem d_M_text_87 : decode b_M_text 87 = .ok (.getfield 150, 3) := by decide +kernel
theorem d_M_text_90 : decode b_M_text 90 = .ok (.ireturn, 1) := by decide +kernel
theorem d_M_charAt_0 : decode b_M_charAt 0 = .ok (.aload_n 0, 1) := by decide +kernel
theorem d_M_charAt_1 : decode b_M_charAt 1 = .ok (.iload_n 1, 1) := by decide +kernel
theorem d_M_charAt_2 : decode b_M_charAt 2 = .ok (.ifCond .lt 11, 3) := by decide +kernel
theorem d_M_charAt_5 : decode b_M_charAt 5 = .ok (.iload_n 1, 1) := by decide +kernel
theorem d_M_charAt_6 : decode b_M_charAt 6 = .ok (.aload_n 0, 1) := by decide +kernel
theorem d_M_charAt_7 : decode b_M_charAt 7 = .ok (.getfield 150, 3) := by decide +kernel
theorem d_M_charAt_10 : decode b_M_charAt 10 = .ok (.if_icmp .lt 7, 3) := by decide +kernel
theorem d_M_charAt_13 : decode b_M_charAt 13 = .ok (.iconst 1, 1) := by decide +kernel
theorem d_M_charAt_14 : decode b_M_charAt 14 = .ok (.goto 4, 3) := by decide +kernel
theorem d_M_charAt_17 : decode b_M_charAt 17 = .ok (.iconst 0, 1) := by decide +kernel
theorem d_M_charAt_18 : decode b_M_charAt 18 = .ok (.invokevirtual 50, 3) := by decide +kernel
theorem d_M_charAt_21 : decode b_M_charAt 21 = .ok (.ifCond .eq 5, 3) := by decide +kernel
theorem d_M_charAt_24 : decode b_M_charAt 24 = .ok (.iconst 0, 1) := by decide +kernel
theorem d_M_charAt_25 : decode b_M_charAt 25 = .ok (.ireturn, 1) := by decide +kernel
theorem d_M_charAt_26 : decode b_M_charAt 26 = .ok (.aload_n 0, 1) := by decide +kernel
theorem d_M_charAt_27 : decode b_M_charAt 27 = .ok (.getfield 26, 3) := by decide +kernel
theorem d_M_charAt_30 : decode b_M_charAt 30 = .ok (.iload_n 1, 1) := by decide +kernel
theorem d_M_charAt_31 : decode b_M_charAt 31 = .ok (.iaload, 1) := by decide +kernel
theorem d_M_charAt_32 : decode b_M_charAt 32 = .ok (.ireturn, 1) := by decide +kernel
theorem d_M_told_0 : decode b_M_told 0 = .ok (.aload_n 0, 1) := by decide +kernel
theorem d_M_told_1 : decode b_M_told 1 = .ok (.iconst 0, 1) := by decide +kernel
theorem d_M_told_2 : decode b_M_told 2 = .ok (.putfield 36, 3) := by decide +kernel
theorem d_M_told_5 : decode b_M_told 5 = .ok (.iconst 0, 1) := by decide +kernel
theorem d_M_told_6 : decode b_M_told 6 = .ok (.istore_n 2, 1) := by decide +kernel
theorem d_M_told_7 : decode b_M_told 7 = .ok (.iconst 0, 1) := by decide +kernel
theorem d_M_told_8 : decode b_M_told 8 = .ok (.istore_n 3, 1) := by decide +kernel
theorem d_M_told_9 : decode b_M_told 9 = .ok (.iload_n 3, 1) := by decide +kernel
theorem d_M_told_10 : decode b_M_told 10 = .ok (.aload_n 0, 1) := by decide +kernel
theorem d_M_told_11 : decode b_M_told 11 = .ok (.getfield 40, 3) := by decide +kernel
theorem d_M_told_14 : decode b_M_told 14 = .ok (.if_icmp .ge 17, 3) := by decide +kernel
theorem d_M_told_17 : decode b_M_told 17 = .ok (.iload_n 2, 1) := by decide +kernel
theorem d_M_told_18 : decode b_M_told 18 = .ok (.aload_n 0, 1) := by decide +kernel
theorem d_M_told_19 : decode b_M_told 19 = .ok (.iload_n 3, 1) := by decide +kernel
theorem d_M_told_20 : decode b_M_told 20 = .ok (.invokevirtual 78, 3) := by decide +kernel
theorem d_M_told_23 : decode b_M_told 23 = .ok (.iadd, 1) := by decide +kernel
theorem d_M_told_24 : decode b_M_told 24 = .ok (.istore_n 2, 1) := by decide +kernel
theorem d_M_told_25 : decode b_M_told 25 = .ok (.iinc 3 1, 3) := by decide +kernel
theorem d_M_told_28 : decode b_M_told 28 = .ok (.goto (-19), 3) := by decide +kernel
theorem d_M_told_31 : decode b_M_told 31 = .ok (.iload_n 1, 1) := by decide +kernel
theorem d_M_told_32 : decode b_M_told 32 = .ok (.ifCond .ne 10, 3) := by decide +kernel
theorem d_M_told_35 : decode b_M_told 35 = .ok (.aload_n 0, 1) := by decide +kernel
theorem d_M_told_36 : decode b_M_told 36 = .ok (.getfield 40, 3) := by decide +kernel
theorem d_M_told_39 : decode b_M_told 39 = .ok (.goto 37, 3) := by decide +kernel
theorem d_M_told_42 : decode b_M_told 42 = .ok (.iload_n 1, 1) := by decide +kernel
theorem d_M_told_43 : decode b_M_told 43 = .ok (.iconst 1, 1) := by decide +kernel
theorem d_M_told_44 : decode b_M_told 44 = .ok (.if_icmp .ne 10, 3) := by decide +kernel
theorem d_M_told_47 : decode b_M_told 47 = .ok (.aload_n 0, 1) := by decide +kernel
theorem d_M_told_48 : decode b_M_told 48 = .ok (.getfield 47, 3) := by decide +kernel
theorem d_M_told_51 : decode b_M_told 51 = .ok (.goto 25, 3) := by decide +kernel
theorem d_M_told_54 : decode b_M_told 54 = .ok (.iload_n 1, 1) := by decide +kernel
theorem d_M_told_55 : decode b_M_told 55 = .ok (.iconst 2, 1) := by decide +kernel
theorem d_M_told_56 : decode b_M_told 56 = .ok (.if_icmp .ne 10, 3) := by decide +kernel
theorem d_M_told_59 : decode b_M_told 59 = .ok (.aload_n 0, 1) := by decide +kernel
theorem d_M_told_60 : decode b_M_told 60 = .ok (.invokevirtual 146, 3) := by decide +kernel
theorem d_M_told_63 : decode b_M_told 63 = .ok (.goto 13, 3) := by decide +kernel
theorem d_M_told_66 : decode b_M_told 66 = .ok (.iload_n 1, 1) := by decide +kernel
theorem d_M_told_67 : decode b_M_told 67 = .ok (.iconst 3, 1) := by decide +kernel
theorem d_M_told_68 : decode b_M_told 68 = .ok (.if_icmp .ne 7, 3) := by decide +kernel
theorem d_M_told_71 : decode b_M_told 71 = .ok (.iload_n 2, 1) := by decide +kernel
theorem d_M_told_72 : decode b_M_told 72 = .ok (.goto 4, 3) := by decide +kernel
theorem d_M_told_75 : decode b_M_told 75 = .ok (.iconst (-1), 1) := by decide +kernel
theorem d_M_told_76 : decode b_M_told 76 = .ok (.ireturn, 1) := by decide +kernel
theorem d_M_clear_0 : decode b_M_clear 0 = .ok (.aload_n 0, 1) := by decide +kernel
theorem d_M_clear_1 : decode b_M_clear 1 = .ok (.iconst 0, 1) := by decide +kernel
theorem d_M_clear_2 : decode b_M_clear 2 = .ok (.putfield 36, 3) := by decide +kernel
theorem d_M_clear_5 : decode b_M_clear 5 = .ok (.aload_n 0, 1) := by decide +kernel
theorem d_M_clear_6 : decode b_M_clear 6 = .ok (.iconst 0, 1) := by decide +kernel
theorem d_M_clear_7 : decode b_M_clear 7 = .ok (.putfield 40, 3) := by decide +kernel
theorem d_M_clear_10 : decode b_M_clear 10 = .ok (.aload_n 0, 1) := by decide +kernel
theorem d_M_clear_11 : decode b_M_clear 11 = .ok (.iconst 0, 1) := by decide +kernel
theorem d_M_clear_12 : decode b_M_clear 12 = .ok (.putfield 47, 3) := by decide +kernel
theorem d_M_clear_15 : decode b_M_clear 15 = .ok (.aload_n 0, 1) := by decide +kernel
theorem d_M_clear_16 : decode b_M_clear 16 = .ok (.iconst 0, 1) := by decide +kernel
theorem d_M_clear_17 : decode b_M_clear 17 = .ok (.putfield 67, 3) := by decide +kernel
theorem d_M_clear_20 : decode b_M_clear 20 = .ok (.aload_n 0, 1) := by decide +kernel
theorem d_M_clear_21 : decode b_M_clear 21 = .ok (.iconst 0, 1) := by decide +kernel
theorem d_M_clear_22 : decode b_M_clear 22 = .ok (.putfield 150, 3) := by decide +kernel
theorem d_M_clear_25 : decode b_M_clear 25 = .ok (.iconst 0, 1) := by decide +kernel
theorem d_M_clear_26 : decode b_M_clear 26 = .ok (.istore_n 1, 1) := by decide +kernel
theorem d_M_clear_27 : decode b_M_clear 27 = .ok (.iload_n 1, 1) := by decide +kernel
theorem d_M_clear_28 : decode b_M_clear 28 = .ok (.sipush 192, 3) := by decide +kernel
theorem d_M_clear_31 : decode b_M_clear 31 = .ok (.if_icmp .ge 23, 3) := by decide +kernel
theorem d_M_clear_34 : decode b_M_clear 34 = .ok (.aload_n 0, 1) := by decide +kernel
theorem d_M_clear_35 : decode b_M_clear 35 = .ok (.getfield 7, 3) := by decide +kernel
theorem d_M_clear_38 : decode b_M_clear 38 = .ok (.iload_n 1, 1) := by decide +kernel
theorem d_M_clear_39 : decode b_M_clear 39 = .ok (.iconst 0, 1) := by decide +kernel
theorem d_M_clear_40 : decode b_M_clear 40 = .ok (.iastore, 1) := by decide +kernel
theorem d_M_clear_41 : decode b_M_clear 41 = .ok (.aload_n 0, 1) := by decide +kernel
theorem d_M_clear_42 : decode b_M_clear 42 = .ok (.getfield 13, 3) := by decide +kernel
theorem d_M_clear_45 : decode b_M_clear 45 = .ok (.iload_n 1, 1) := by decide +kernel
theorem d_M_clear_46 : decode b_M_clear 46 = .ok (.iconst 0, 1) := by decide +kernel
theorem d_M_clear_47 : decode b_M_clear 47 = .ok (.bastore, 1) := by decide +kernel
theorem d_M_clear_48 : decode b_M_clear 48 = .ok (.iinc 1 1, 3) := by decide +kernel
theorem d_M_clear_51 : decode b_M_clear 51 = .ok (.goto (-24), 3) := by decide +kernel
theorem d_M_clear_54 : decode b_M_clear 54 = .ok (.return_, 1) := by decide +kernel
theorem d_L_init_0 : decode b_L_init 0 = .ok (.aload_n 0, 1) := by decide +kernel
theorem d_L_init_1 : decode b_L_init 1 = .ok (.invokespecial 3, 3) := by decide +kernel
theorem d_L_init_4 : decode b_L_init 4 = .ok (.aload_n 0, 1) := by decide +kernel
theorem d_L_init_5 : decode b_L_init 5 = .ok (.sipush 136, 3) := by decide +kernel
theorem d_L_init_8 : decode b_L_init 8 = .ok (.newarray .char, 2) := by decide +kernel
theorem d_L_init_10 : decode b_L_init 10 = .ok (.putfield 11, 3) := by decide +kernel
theorem d_L_init_13 : decode b_L_init 13 = .ok (.return_, 1) := by decide +kernel
theorem d_L_start_0 : decode b_L_start 0 = .ok (.aload_n 0, 1) := by decide +kernel
theorem d_L_start_1 : decode b_L_start 1 = .ok (.iconst 0, 1) := by decide +kernel
theorem d_L_start_2 : decode b_L_start 2 = .ok (.putfield 15, 3) := by decide +kernel
theorem d_L_start_5 : decode b_L_start 5 = .ok (.return_, 1) := by decide +kernel
theorem d_L_put_0 : decode b_L_put 0 = .ok (.aload_n 0, 1) := by decide +kernel
theorem d_L_put_1 : decode b_L_put 1 = .ok (.getfield 15, 3) := by decide +kernel
theorem d_L_put_4 : decode b_L_put 4 = .ok (.aload_n 0, 1) := by decide +kernel
theorem d_L_put_5 : decode b_L_put 5 = .ok (.getfield 11, 3) := by decide +kernel
theorem d_L_put_8 : decode b_L_put 8 = .ok (.arraylength, 1) := by decide +kernel
theorem d_L_put_9 : decode b_L_put 9 = .ok (.if_icmp .ge 23, 3) := by decide +kernel
theorem d_L_put_12 : decode b_L_put 12 = .ok (.aload_n 0, 1) := by decide +kernel
theorem d_L_put_13 : decode b_L_put 13 = .ok (.getfield 11, 3) := by decide +kernel
theorem d_L_put_16 : decode b_L_put 16 = .ok (.aload_n 0, 1) := by decide +kernel
theorem d_L_put_17 : decode b_L_put 17 = .ok (.getfield 15, 3) := by decide +kernel
theorem d_L_put_20 : decode b_L_put 20 = .ok (.iload_n 1, 1) := by decide +kernel
theorem d_L_put_21 : decode b_L_put 21 = .ok (.castore, 1) := by decide +kernel
theorem d_L_put_22 : decode b_L_put 22 = .ok (.aload_n 0, 1) := by decide +kernel
theorem d_L_put_23 : decode b_L_put 23 = .ok (.dup, 1) := by decide +kernel
theorem d_L_put_24 : decode b_L_put 24 = .ok (.getfield 15, 3) := by decide +kernel
theorem d_L_put_27 : decode b_L_put 27 = .ok (.iconst 1, 1) := by decide +kernel
theorem d_L_put_28 : decode b_L_put 28 = .ok (.iadd, 1) := by decide +kernel
theorem d_L_put_29 : decode b_L_put 29 = .ok (.putfield 15, 3) := by decide +kernel
theorem d_L_put_32 : decode b_L_put 32 = .ok (.return_, 1) := by decide +kernel
theorem d_L_putNumber_0 : decode b_L_putNumber 0 = .ok (.lconst 1, 1) := by decide +kernel
theorem d_L_putNumber_1 : decode b_L_putNumber 1 = .ok (.lstore_n 3, 1) := by decide +kernel
theorem d_L_putNumber_2 : decode b_L_putNumber 2 = .ok (.iconst 1, 1) := by decide +kernel
theorem d_L_putNumber_3 : decode b_L_putNumber 3 = .ok (.istore 5, 2) := by decide +kernel
theorem d_L_putNumber_5 : decode b_L_putNumber 5 = .ok (.iload 5, 2) := by decide +kernel
theorem d_L_putNumber_7 : decode b_L_putNumber 7 = .ok (.bipush 11, 2) := by decide +kernel
theorem d_L_putNumber_9 : decode b_L_putNumber 9 = .ok (.if_icmp .ge 25, 3) := by decide +kernel
theorem d_L_putNumber_12 : decode b_L_putNumber 12 = .ok (.lload_n 3, 1) := by decide +kernel
theorem d_L_putNumber_13 : decode b_L_putNumber 13 = .ok (.lload_n 1, 1) := by decide +kernel
theorem d_L_putNumber_14 : decode b_L_putNumber 14 = .ok (.ldc2_w 19, 3) := by decide +kernel
theorem d_L_putNumber_17 : decode b_L_putNumber 17 = .ok (.ldiv, 1) := by decide +kernel
theorem d_L_putNumber_18 : decode b_L_putNumber 18 = .ok (.lcmp, 1) := by decide +kernel
theorem d_L_putNumber_19 : decode b_L_putNumber 19 = .ok (.ifCond .gt 15, 3) := by decide +kernel
theorem d_L_putNumber_22 : decode b_L_putNumber 22 = .ok (.lload_n 3, 1) := by decide +kernel
theorem d_L_putNumber_23 : decode b_L_putNumber 23 = .ok (.ldc2_w 19, 3) := by decide +kernel
theorem d_L_putNumber_26 : decode b_L_putNumber 26 = .ok (.lmul, 1) := by decide +kernel
theorem d_L_putNumber_27 : decode b_L_putNumber 27 = .ok (.lstore_n 3, 1) := by decide +kernel
theorem d_L_putNumber_28 : decode b_L_putNumber 28 = .ok (.iinc 5 1, 3) := by decide +kernel
theorem d_L_putNumber_31 : decode b_L_putNumber 31 = .ok (.goto (-26), 3) := by decide +kernel
theorem d_L_putNumber_34 : decode b_L_putNumber 34 = .ok (.iconst 0, 1) := by decide +kernel
theorem d_L_putNumber_35 : decode b_L_putNumber 35 = .ok (.istore 5, 2) := by decide +kernel
theorem d_L_putNumber_37 : decode b_L_putNumber 37 = .ok (.iload 5, 2) := by decide +kernel
theorem d_L_putNumber_39 : decode b_L_putNumber 39 = .ok (.bipush 11, 2) := by decide +kernel
theorem d_L_putNumber_41 : decode b_L_putNumber 41 = .ok (.if_icmp .ge 38, 3) := by decide +kernel
theorem d_L_putNumber_44 : decode b_L_putNumber 44 = .ok (.lload_n 3, 1) := by decide +kernel
theorem d_L_putNumber_45 : decode b_L_putNumber 45 = .ok (.lconst 0, 1) := by decide +kernel
theorem d_L_putNumber_46 : decode b_L_putNumber 46 = .ok (.lcmp, 1) := by decide +kernel
theorem d_L_putNumber_47 : decode b_L_putNumber 47 = .ok (.ifCond .le 32, 3) := by decide +kernel
theorem d_L_putNumber_50 : decode b_L_putNumber 50 = .ok (.aload_n 0, 1) := by decide +kernel
theorem d_L_putNumber_51 : decode b_L_putNumber 51 = .ok (.ldc2_w 21, 3) := by decide +kernel
theorem d_L_putNumber_54 : decode b_L_putNumber 54 = .ok (.lload_n 1, 1) := by decide +kernel
theorem d_L_putNumber_55 : decode b_L_putNumber 55 = .ok (.lload_n 3, 1) := by decide +kernel
theorem d_L_putNumber_56 : decode b_L_putNumber 56 = .ok (.ldiv, 1) := by decide +kernel
theorem d_L_putNumber_57 : decode b_L_putNumber 57 = .ok (.ldc2_w 19, 3) := by decide +kernel
theorem d_L_putNumber_60 : decode b_L_putNumber 60 = .ok (.lrem, 1) := by decide +kernel
theorem d_L_putNumber_61 : decode b_L_putNumber 61 = .ok (.ladd, 1) := by decide +kernel
theorem d_L_putNumber_62 : decode b_L_putNumber 62 = .ok (.l2i, 1) := by decide +kernel
theorem d_L_putNumber_63 : decode b_L_putNumber 63 = .ok (.i2c, 1) := by decide +kernel
theorem d_L_putNumber_64 : decode b_L_putNumber 64 = .ok (.invokevirtual 23, 3) := by decide +kernel
theorem d_L_putNumber_67 : decode b_L_putNumber 67 = .ok (.lload_n 3, 1) := by decide +kernel
theorem d_L_putNumber_68 : decode b_L_putNumber 68 = .ok (.ldc2_w 19, 3) := by decide +kernel
theorem d_L_putNumber_71 : decode b_L_putNumber 71 = .ok (.ldiv, 1) := by decide +kernel
theorem d_L_putNumber_72 : decode b_L_putNumber 72 = .ok (.lstore_n 3, 1) := by decide +kernel
theorem d_L_putNumber_73 : decode b_L_putNumber 73 = .ok (.iinc 5 1, 3) := by decide +kernel
theorem d_L_putNumber_76 : decode b_L_putNumber 76 = .ok (.goto (-39), 3) := by decide +kernel
theorem d_L_putNumber_79 : decode b_L_putNumber 79 = .ok (.return_, 1) := by decide +kernel
theorem d_N_init_0 : decode b_N_init 0 = .ok (.aload_n 0, 1) := by decide +kernel
theorem d_N_init_1 : decode b_N_init 1 = .ok (.invokespecial 1, 3) := by decide +kernel
theorem d_N_init_4 : decode b_N_init 4 = .ok (.return_, 1) := by decide +kernel
theorem d_N_start_0 : decode b_N_start 0 = .ok (.aload_n 0, 1) := by decide +kernel
theorem d_N_start_1 : decode b_N_start 1 = .ok (.lload_n 1, 1) := by decide +kernel
theorem d_N_start_2 : decode b_N_start 2 = .ok (.putfield 7, 3) := by decide +kernel
theorem d_N_start_5 : decode b_N_start 5 = .ok (.return_, 1) := by decide +kernel
theorem d_N_below_0 : decode b_N_below 0 = .ok (.aload_n 0, 1) := by decide +kernel
theorem d_N_below_1 : decode b_N_below 1 = .ok (.aload_n 0, 1) := by decide +kernel
theorem d_N_below_2 : decode b_N_below 2 = .ok (.getfield 7, 3) := by decide +kernel
theorem d_N_below_5 : decode b_N_below 5 = .ok (.ldc2_w 13, 3) := by decide +kernel
theorem d_N_below_8 : decode b_N_below 8 = .ok (.lmul, 1) := by decide +kernel
theorem d_N_below_9 : decode b_N_below 9 = .ok (.ldc2_w 15, 3) := by decide +kernel
theorem d_N_below_12 : decode b_N_below 12 = .ok (.ladd, 1) := by decide +kernel
theorem d_N_below_13 : decode b_N_below 13 = .ok (.putfield 7, 3) := by decide +kernel
theorem d_N_below_16 : decode b_N_below 16 = .ok (.iload_n 1, 1) := by decide +kernel
theorem d_N_below_17 : decode b_N_below 17 = .ok (.ifCond .gt 7, 3) := by decide +kernel
theorem d_N_below_20 : decode b_N_below 20 = .ok (.iconst 0, 1) := by decide +kernel
theorem d_N_below_21 : decode b_N_below 21 = .ok (.goto 13, 3) := by decide +kernel
theorem d_N_below_24 : decode b_N_below 24 = .ok (.aload_n 0, 1) := by decide +kernel
theorem d_N_below_25 : decode b_N_below 25 = .ok (.getfield 7, 3) := by decide +kernel
theorem d_N_below_28 : decode b_N_below 28 = .ok (.bipush 33, 2) := by decide +kernel
theorem d_N_below_30 : decode b_N_below 30 = .ok (.lushr, 1) := by decide +kernel
theorem d_N_below_31 : decode b_N_below 31 = .ok (.l2i, 1) := by decide +kernel
theorem d_N_below_32 : decode b_N_below 32 = .ok (.iload_n 1, 1) := by decide +kernel
theorem d_N_below_33 : decode b_N_below 33 = .ok (.irem, 1) := by decide +kernel
theorem d_N_below_34 : decode b_N_below 34 = .ok (.ireturn, 1) := by decide +kernel
theorem d_W_coder_0 : decode b_W_coder 0 = .ok (.aload_n 1, 1) := by decide +kernel
theorem d_W_coder_1 : decode b_W_coder 1 = .ok (.iconst 0, 1) := by decide +kernel
theorem d_W_coder_2 : decode b_W_coder 2 = .ok (.aload_n 0, 1) := by decide +kernel
theorem d_W_coder_3 : decode b_W_coder 3 = .ok (.invokevirtual 7, 3) := by decide +kernel
theorem d_W_coder_6 : decode b_W_coder 6 = .ok (.i2l, 1) := by decide +kernel
theorem d_W_coder_7 : decode b_W_coder 7 = .ok (.lastore, 1) := by decide +kernel
theorem d_W_coder_8 : decode b_W_coder 8 = .ok (.goto 6, 3) := by decide +kernel
theorem d_W_coder_11 : decode b_W_coder 11 = .ok (.astore_n 2, 1) := by decide +kernel
theorem d_W_coder_12 : decode b_W_coder 12 = .ok (.iconst 1, 1) := by decide +kernel
theorem d_W_coder_13 : decode b_W_coder 13 = .ok (.ireturn, 1) := by decide +kernel
theorem d_W_coder_14 : decode b_W_coder 14 = .ok (.iconst 0, 1) := by decide +kernel
theorem d_W_coder_15 : decode b_W_coder 15 = .ok (.ireturn, 1) := by decide +kernel
theorem d_W_picture_0 : decode b_W_picture 0 = .ok (.aload_n 1, 1) := by decide +kernel
theorem d_W_picture_1 : decode b_W_picture 1 = .ok (.iconst 0, 1) := by decide +kernel
theorem d_W_picture_2 : decode b_W_picture 2 = .ok (.aload_n 0, 1) := by decide +kernel
theorem d_W_picture_3 : decode b_W_picture 3 = .ok (.invokevirtual 15, 3) := by decide +kernel
theorem d_W_picture_6 : decode b_W_picture 6 = .ok (.i2l, 1) := by decide +kernel
theorem d_W_picture_7 : decode b_W_picture 7 = .ok (.lastore, 1) := by decide +kernel
theorem d_W_picture_8 : decode b_W_picture 8 = .ok (.goto 6, 3) := by decide +kernel
theorem d_W_picture_11 : decode b_W_picture 11 = .ok (.astore_n 2, 1) := by decide +kernel
theorem d_W_picture_12 : decode b_W_picture 12 = .ok (.iconst 1, 1) := by decide +kernel
theorem d_W_picture_13 : decode b_W_picture 13 = .ok (.ireturn, 1) := by decide +kernel
theorem d_W_picture_14 : decode b_W_picture 14 = .ok (.iconst 0, 1) := by decide +kernel
theorem d_W_picture_15 : decode b_W_picture 15 = .ok (.ireturn, 1) := by decide +kernel
theorem d_W_point_0 : decode b_W_point 0 = .ok (.aload 5, 2) := by decide +kernel
theorem d_W_point_2 : decode b_W_point 2 = .ok (.iconst 0, 1) := by decide +kernel
theorem d_W_point_3 : decode b_W_point 3 = .ok (.aload_n 0, 1) := by decide +kernel
theorem d_W_point_4 : decode b_W_point 4 = .ok (.iload_n 1, 1) := by decide +kernel
theorem d_W_point_5 : decode b_W_point 5 = .ok (.iload_n 2, 1) := by decide +kernel
theorem d_W_point_6 : decode b_W_point 6 = .ok (.iload_n 3, 1) := by decide +kernel
theorem d_W_point_7 : decode b_W_point 7 = .ok (.iload 4, 2) := by decide +kernel
theorem d_W_point_9 : decode b_W_point 9 = .ok (.invokevirtual 18, 3) := by decide +kernel
theorem d_W_point_12 : decode b_W_point 12 = .ok (.i2l, 1) := by decide +kernel
theorem d_W_point_13 : decode b_W_point 13 = .ok (.lastore, 1) := by decide +kernel
theorem d_W_point_14 : decode b_W_point 14 = .ok (.goto 19, 3) := by decide +kernel
theorem d_W_point_17 : decode b_W_point 17 = .ok (.astore 6, 2) := by decide +kernel
theorem d_W_point_19 : decode b_W_point 19 = .ok (.iconst 1, 1) := by decide +kernel
theorem d_W_point_20 : decode b_W_point 20 = .ok (.ireturn, 1) := by decide +kernel
theorem d_W_point_21 : decode b_W_point 21 = .ok (.astore 6, 2) := by decide +kernel
theorem d_W_point_23 : decode b_W_point 23 = .ok (.iconst 2, 1) := by decide +kernel
theorem d_W_point_24 : decode b_W_point 24 = .ok (.ireturn, 1) := by decide +kernel
theorem d_W_point_25 : decode b_W_point 25 = .ok (.astore 6, 2) := by decide +kernel
theorem d_W_point_27 : decode b_W_point 27 = .ok (.iconst 3, 1) := by decide +kernel
theorem d_W_point_28 : decode b_W_point 28 = .ok (.ireturn, 1) := by decide +kernel
theorem d_W_point_29 : decode b_W_point 29 = .ok (.astore 6, 2) := by decide +kernel
theorem d_W_point_31 : decode b_W_point 31 = .ok (.iconst 4, 1) := by decide +kernel
theorem d_W_point_32 : decode b_W_point 32 = .ok (.ireturn, 1) := by decide +kernel
theorem d_W_point_33 : decode b_W_point 33 = .ok (.iconst 0, 1) := by decide +kernel
theorem d_W_point_34 : decode b_W_point 34 = .ok (.ireturn, 1) := by decide +kernel
theorem d_W_fails_0 : decode b_W_fails 0 = .ok (.aload_n 3, 1) := by decide +kernel
theorem d_W_fails_1 : decode b_W_fails 1 = .ok (.iconst 0, 1) := by decide +kernel
theorem d_W_fails_2 : decode b_W_fails 2 = .ok (.aload_n 0, 1) := by decide +kernel
theorem d_W_fails_3 : decode b_W_fails 3 = .ok (.iload_n 1, 1) := by decide +kernel
theorem d_W_fails_4 : decode b_W_fails 4 = .ok (.iload_n 2, 1) := by decide +kernel
theorem d_W_fails_5 : decode b_W_fails 5 = .ok (.invokevirtual 28, 3) := by decide +kernel
theorem d_W_fails_8 : decode b_W_fails 8 = .ok (.i2l, 1) := by decide +kernel
theorem d_W_fails_9 : decode b_W_fails 9 = .ok (.lastore, 1) := by decide +kernel
theorem d_W_fails_10 : decode b_W_fails 10 = .ok (.goto 11, 3) := by decide +kernel
theorem d_W_fails_13 : decode b_W_fails 13 = .ok (.astore 4, 2) := by decide +kernel
theorem d_W_fails_15 : decode b_W_fails 15 = .ok (.iconst 1, 1) := by decide +kernel
theorem d_W_fails_16 : decode b_W_fails 16 = .ok (.ireturn, 1) := by decide +kernel
theorem d_W_fails_17 : decode b_W_fails 17 = .ok (.astore 4, 2) := by decide +kernel
theorem d_W_fails_19 : decode b_W_fails 19 = .ok (.iconst 2, 1) := by decide +kernel
theorem d_W_fails_20 : decode b_W_fails 20 = .ok (.ireturn, 1) := by decide +kernel
theorem d_W_fails_21 : decode b_W_fails 21 = .ok (.iconst 0, 1) := by decide +kernel
theorem d_W_fails_22 : decode b_W_fails 22 = .ok (.ireturn, 1) := by decide +kernel
theorem d_W_failing_0 : decode b_W_failing 0 = .ok (.aload_n 3, 1) := by decide +kernel
theorem d_W_failing_1 : decode b_W_failing 1 = .ok (.iconst 0, 1) := by decide +kernel
theorem d_W_failing_2 : decode b_W_failing 2 = .ok (.aload_n 0, 1) := by decide +kernel
theorem d_W_failing_3 : decode b_W_failing 3 = .ok (.iload_n 1, 1) := by decide +kernel
theorem d_W_failing_4 : decode b_W_failing 4 = .ok (.iload_n 2, 1) := by decide +kernel
theorem d_W_failing_5 : decode b_W_failing 5 = .ok (.invokevirtual 32, 3) := by decide +kernel
theorem d_W_failing_8 : decode b_W_failing 8 = .ok (.i2l, 1) := by decide +kernel
theorem d_W_failing_9 : decode b_W_failing 9 = .ok (.lastore, 1) := by decide +kernel
theorem d_W_failing_10 : decode b_W_failing 10 = .ok (.goto 11, 3) := by decide +kernel
theorem d_W_failing_13 : decode b_W_failing 13 = .ok (.astore 4, 2) := by decide +kernel
theorem d_W_failing_15 : decode b_W_failing 15 = .ok (.iconst 1, 1) := by decide +kernel
theorem d_W_failing_16 : decode b_W_failing 16 = .ok (.ireturn, 1) := by decide +kernel
theorem d_W_failing_17 : decode b_W_failing 17 = .ok (.astore 4, 2) := by decide +kernel
theorem d_W_failing_19 : decode b_W_failing 19 = .ok (.iconst 2, 1) := by decide +kernel
theorem d_W_failing_20 : decode b_W_failing 20 = .ok (.ireturn, 1) := by decide +kernel
theorem d_W_failing_21 : decode b_W_failing 21 = .ok (.iconst 0, 1) := by decide +kernel
theorem d_W_failing_22 : decode b_W_failing 22 = .ok (.ireturn, 1) := by decide +kernel
theorem d_W_least_0 : decode b_W_least 0 = .ok (.aload_n 3, 1) := by decide +kernel
theorem d_W_least_1 : decode b_W_least 1 = .ok (.iconst 0, 1) := by decide +kernel
theorem d_W_least_2 : decode b_W_least 2 = .ok (.aload_n 0, 1) := by decide +kernel
theorem d_W_least_3 : decode b_W_least 3 = .ok (.iload_n 1, 1) := by decide +kernel
theorem d_W_least_4 : decode b_W_least 4 = .ok (.iload_n 2, 1) := by decide +kernel
theorem d_W_least_5 : decode b_W_least 5 = .ok (.invokevirtual 35, 3) := by decide +kernel
theorem d_W_least_8 : decode b_W_least 8 = .ok (.i2l, 1) := by decide +kernel
theorem d_W_least_9 : decode b_W_least 9 = .ok (.lastore, 1) := by decide +kernel
theorem d_W_least_10 : decode b_W_least 10 = .ok (.goto 11, 3) := by decide +kernel
theorem d_W_least_13 : decode b_W_least 13 = .ok (.astore 4, 2) := by decide +kernel
theorem d_W_least_15 : decode b_W_least 15 = .ok (.iconst 1, 1) := by decide +kernel
theorem d_W_least_16 : decode b_W_least 16 = .ok (.ireturn, 1) := by decide +kernel
theorem d_W_least_17 : decode b_W_least 17 = .ok (.astore 4, 2) := by decide +kernel
theorem d_W_least_19 : decode b_W_least 19 = .ok (.iconst 2, 1) := by decide +kernel
theorem d_W_least_20 : decode b_W_least 20 = .ok (.ireturn, 1) := by decide +kernel
theorem d_W_least_21 : decode b_W_least 21 = .ok (.iconst 0, 1) := by decide +kernel
theorem d_W_least_22 : decode b_W_least 22 = .ok (.ireturn, 1) := by decide +kernel
theorem d_W_sum_0 : decode b_W_sum 0 = .ok (.aload_n 2, 1) := by decide +kernel
theorem d_W_sum_1 : decode b_W_sum 1 = .ok (.iconst 0, 1) := by decide +kernel
theorem d_W_sum_2 : decode b_W_sum 2 = .ok (.aload_n 0, 1) := by decide +kernel
theorem d_W_sum_3 : decode b_W_sum 3 = .ok (.iload_n 1, 1) := by decide +kernel
theorem d_W_sum_4 : decode b_W_sum 4 = .ok (.invokevirtual 38, 3) := by decide +kernel
theorem d_W_sum_7 : decode b_W_sum 7 = .ok (.lastore, 1) := by decide +kernel
theorem d_W_sum_8 : decode b_W_sum 8 = .ok (.goto 6, 3) := by decide +kernel
theorem d_W_sum_11 : decode b_W_sum 11 = .ok (.astore_n 3, 1) := by decide +kernel
theorem d_W_sum_12 : decode b_W_sum 12 = .ok (.iconst 1, 1) := by decide +kernel
theorem d_W_sum_13 : decode b_W_sum 13 = .ok (.ireturn, 1) := by decide +kernel
theorem d_W_sum_14 : decode b_W_sum 14 = .ok (.iconst 0, 1) := by decide +kernel
theorem d_W_sum_15 : decode b_W_sum 15 = .ok (.ireturn, 1) := by decide +kernel
theorem d_W_mean_0 : decode b_W_mean 0 = .ok (.aload_n 3, 1) := by decide +kernel
theorem d_W_mean_1 : decode b_W_mean 1 = .ok (.iconst 0, 1) := by decide +kernel
theorem d_W_mean_2 : decode b_W_mean 2 = .ok (.aload_n 0, 1) := by decide +kernel
theorem d_W_mean_3 : decode b_W_mean 3 = .ok (.iload_n 1, 1) := by decide +kernel
theorem d_W_mean_4 : decode b_W_mean 4 = .ok (.iload_n 2, 1) := by decide +kernel
theorem d_W_mean_5 : decode b_W_mean 5 = .ok (.invokevirtual 42, 3) := by decide +kernel
theorem d_W_mean_8 : decode b_W_mean 8 = .ok (.lastore, 1) := by decide +kernel
theorem d_W_mean_9 : decode b_W_mean 9 = .ok (.goto 11, 3) := by decide +kernel
theorem d_W_mean_12 : decode b_W_mean 12 = .ok (.astore 4, 2) := by decide +kernel
theorem d_W_mean_14 : decode b_W_mean 14 = .ok (.iconst 1, 1) := by decide +kernel
theorem d_W_mean_15 : decode b_W_mean 15 = .ok (.ireturn, 1) := by decide +kernel
theorem d_W_mean_16 : decode b_W_mean 16 = .ok (.astore 4, 2) := by decide +kernel
theorem d_W_mean_18 : decode b_W_mean 18 = .ok (.iconst 2, 1) := by decide +kernel
theorem d_W_mean_19 : decode b_W_mean 19 = .ok (.ireturn, 1) := by decide +kernel
theorem d_W_mean_20 : decode b_W_mean 20 = .ok (.iconst 0, 1) := by decide +kernel
theorem d_W_mean_21 : decode b_W_mean 21 = .ok (.ireturn, 1) := by decide +kernel
theorem d_W_rank_0 : decode b_W_rank 0 = .ok (.aload_n 2, 1) := by decide +kernel
theorem d_W_rank_1 : decode b_W_rank 1 = .ok (.iconst 0, 1) := by decide +kernel
theorem d_W_rank_2 : decode b_W_rank 2 = .ok (.aload_n 0, 1) := by decide +kernel
theorem d_W_rank_3 : decode b_W_rank 3 = .ok (.iload_n 1, 1) := by decide +kernel
theorem d_W_rank_4 : decode b_W_rank 4 = .ok (.invokevirtual 46, 3) := by decide +kernel
theorem d_W_rank_7 : decode b_W_rank 7 = .ok (.i2l, 1) := by decide +kernel
theorem d_W_rank_8 : decode b_W_rank 8 = .ok (.lastore, 1) := by decide +kernel
theorem d_W_rank_9 : decode b_W_rank 9 = .ok (.goto 9, 3) := by decide +kernel
theorem d_W_rank_12 : decode b_W_rank 12 = .ok (.astore_n 3, 1) := by decide +kernel
theorem d_W_rank_13 : decode b_W_rank 13 = .ok (.iconst 1, 1) := by decide +kernel
theorem d_W_rank_14 : decode b_W_rank 14 = .ok (.ireturn, 1) := by decide +kernel
theorem d_W_rank_15 : decode b_W_rank 15 = .ok (.astore_n 3, 1) := by decide +kernel
theorem d_W_rank_16 : decode b_W_rank 16 = .ok (.iconst 2, 1) := by decide +kernel
theorem d_W_rank_17 : decode b_W_rank 17 = .ok (.ireturn, 1) := by decide +kernel
theorem d_W_rank_18 : decode b_W_rank 18 = .ok (.iconst 0, 1) := by decide +kernel
theorem d_W_rank_19 : decode b_W_rank 19 = .ok (.ireturn, 1) := by decide +kernel
theorem d_W_hull_0 : decode b_W_hull 0 = .ok (.aload_n 3, 1) := by decide +kernel
theorem d_W_hull_1 : decode b_W_hull 1 = .ok (.iconst 0, 1) := by decide +kernel
theorem d_W_hull_2 : decode b_W_hull 2 = .ok (.aload_n 0, 1) := by decide +kernel
theorem d_W_hull_3 : decode b_W_hull 3 = .ok (.iload_n 1, 1) := by decide +kernel
theorem d_W_hull_4 : decode b_W_hull 4 = .ok (.iload_n 2, 1) := by decide +kernel
theorem d_W_hull_5 : decode b_W_hull 5 = .ok (.invokevirtual 50, 3) := by decide +kernel
theorem d_W_hull_8 : decode b_W_hull 8 = .ok (.i2l, 1) := by decide +kernel
theorem d_W_hull_9 : decode b_W_hull 9 = .ok (.lastore, 1) := by decide +kernel
theorem d_W_hull_10 : decode b_W_hull 10 = .ok (.goto 7, 3) := by decide +kernel
theorem d_W_hull_13 : decode b_W_hull 13 = .ok (.astore 4, 2) := by decide +kernel
theorem d_W_hull_15 : decode b_W_hull 15 = .ok (.iconst 1, 1) := by decide +kernel
theorem d_W_hull_16 : decode b_W_hull 16 = .ok (.ireturn, 1) := by decide +kernel
theorem d_W_hull_17 : decode b_W_hull 17 = .ok (.iconst 0, 1) := by decide +kernel
theorem d_W_hull_18 : decode b_W_hull 18 = .ok (.ireturn, 1) := by decide +kernel
theorem d_W_onHull_0 : decode b_W_onHull 0 = .ok (.aload 5, 2) := by decide +kernel
theorem d_W_onHull_2 : decode b_W_onHull 2 = .ok (.iconst 0, 1) := by decide +kernel
theorem d_W_onHull_3 : decode b_W_onHull 3 = .ok (.aload_n 0, 1) := by decide +kernel
theorem d_W_onHull_4 : decode b_W_onHull 4 = .ok (.iload_n 1, 1) := by decide +kernel
theorem d_W_onHull_5 : decode b_W_onHull 5 = .ok (.iload_n 2, 1) := by decide +kernel
theorem d_W_onHull_6 : decode b_W_onHull 6 = .ok (.iload_n 3, 1) := by decide +kernel
theorem d_W_onHull_7 : decode b_W_onHull 7 = .ok (.iload 4, 2) := by decide +kernel
theorem d_W_onHull_9 : decode b_W_onHull 9 = .ok (.invokevirtual 53, 3) := by decide +kernel
theorem d_W_onHull_12 : decode b_W_onHull 12 = .ok (.i2l, 1) := by decide +kernel
theorem d_W_onHull_13 : decode b_W_onHull 13 = .ok (.lastore, 1) := by decide +kernel
theorem d_W_onHull_14 : decode b_W_onHull 14 = .ok (.goto 11, 3) := by decide +kernel
theorem d_W_onHull_17 : decode b_W_onHull 17 = .ok (.astore 6, 2) := by decide +kernel
theorem d_W_onHull_19 : decode b_W_onHull 19 = .ok (.iconst 1, 1) := by decide +kernel
theorem d_W_onHull_20 : decode b_W_onHull 20 = .ok (.ireturn, 1) := by decide +kernel
theorem d_W_onHull_21 : decode b_W_onHull 21 = .ok (.astore 6, 2) := by decide +kernel
theorem d_W_onHull_23 : decode b_W_onHull 23 = .ok (.iconst 2, 1) := by decide +kernel
theorem d_W_onHull_24 : decode b_W_onHull 24 = .ok (.ireturn, 1) := by decide +kernel
theorem d_W_onHull_25 : decode b_W_onHull 25 = .ok (.iconst 0, 1) := by decide +kernel
theorem d_W_onHull_26 : decode b_W_onHull 26 = .ok (.ireturn, 1) := by decide +kernel
theorem d_W_slope_0 : decode b_W_slope 0 = .ok (.aload 5, 2) := by decide +kernel
theorem d_W_slope_2 : decode b_W_slope 2 = .ok (.iconst 0, 1) := by decide +kernel
theorem d_W_slope_3 : decode b_W_slope 3 = .ok (.aload_n 0, 1) := by decide +kernel
theorem d_W_slope_4 : decode b_W_slope 4 = .ok (.iload_n 1, 1) := by decide +kernel
theorem d_W_slope_5 : decode b_W_slope 5 = .ok (.iload_n 2, 1) := by decide +kernel
theorem d_W_slope_6 : decode b_W_slope 6 = .ok (.iload_n 3, 1) := by decide +kernel
theorem d_W_slope_7 : decode b_W_slope 7 = .ok (.iload 4, 2) := by decide +kernel
theorem d_W_slope_9 : decode b_W_slope 9 = .ok (.invokevirtual 56, 3) := by decide +kernel
theorem d_W_slope_12 : decode b_W_slope 12 = .ok (.lastore, 1) := by decide +kernel
theorem d_W_slope_13 : decode b_W_slope 13 = .ok (.goto 7, 3) := by decide +kernel
theorem d_W_slope_16 : decode b_W_slope 16 = .ok (.astore 6, 2) := by decide +kernel
theorem d_W_slope_18 : decode b_W_slope 18 = .ok (.iconst 1, 1) := by decide +kernel
theorem d_W_slope_19 : decode b_W_slope 19 = .ok (.ireturn, 1) := by decide +kernel
theorem d_W_slope_20 : decode b_W_slope 20 = .ok (.iconst 0, 1) := by decide +kernel
theorem d_W_slope_21 : decode b_W_slope 21 = .ok (.ireturn, 1) := by decide +kernel
theorem d_W_signs_0 : decode b_W_signs 0 = .ok (.aload 4, 2) := by decide +kernel
theorem d_W_signs_2 : decode b_W_signs 2 = .ok (.iconst 0, 1) := by decide +kernel
theorem d_W_signs_3 : decode b_W_signs 3 = .ok (.aload_n 0, 1) := by decide +kernel
theorem d_W_signs_4 : decode b_W_signs 4 = .ok (.iload_n 1, 1) := by decide +kernel
theorem d_W_signs_5 : decode b_W_signs 5 = .ok (.iload_n 2, 1) := by decide +kernel
theorem d_W_signs_6 : decode b_W_signs 6 = .ok (.iload_n 3, 1) := by decide +kernel
theorem d_W_signs_7 : decode b_W_signs 7 = .ok (.invokevirtual 60, 3) := by decide +kernel
theorem d_W_signs_10 : decode b_W_signs 10 = .ok (.lastore, 1) := by decide +kernel
theorem d_W_signs_11 : decode b_W_signs 11 = .ok (.goto 11, 3) := by decide +kernel
theorem d_W_signs_14 : decode b_W_signs 14 = .ok (.astore 5, 2) := by decide +kernel
theorem d_W_signs_16 : decode b_W_signs 16 = .ok (.iconst 1, 1) := by decide +kernel
theorem d_W_signs_17 : decode b_W_signs 17 = .ok (.ireturn, 1) := by decide +kernel
theorem d_W_signs_18 : decode b_W_signs 18 = .ok (.astore 5, 2) := by decide +kernel
theorem d_W_signs_20 : decode b_W_signs 20 = .ok (.iconst 2, 1) := by decide +kernel
theorem d_W_signs_21 : decode b_W_signs 21 = .ok (.ireturn, 1) := by decide +kernel
theorem d_W_signs_22 : decode b_W_signs 22 = .ok (.iconst 0, 1) := by decide +kernel
theorem d_W_signs_23 : decode b_W_signs 23 = .ok (.ireturn, 1) := by decide +kernel
theorem d_W_draws_0 : decode b_W_draws 0 = .ok (.aload 6, 2) := by decide +kernel
theorem d_W_draws_2 : decode b_W_draws 2 = .ok (.iconst 0, 1) := by decide +kernel
theorem d_W_draws_3 : decode b_W_draws 3 = .ok (.aload_n 0, 1) := by decide +kernel
theorem d_W_draws_4 : decode b_W_draws 4 = .ok (.iload_n 1, 1) := by decide +kernel
theorem d_W_draws_5 : decode b_W_draws 5 = .ok (.iload_n 2, 1) := by decide +kernel
theorem d_W_draws_6 : decode b_W_draws 6 = .ok (.lload_n 3, 1) := by decide +kernel
theorem d_W_draws_7 : decode b_W_draws 7 = .ok (.iload 5, 2) := by decide +kernel
theorem d_W_draws_9 : decode b_W_draws 9 = .ok (.invokevirtual 64, 3) := by decide +kernel
theorem d_W_draws_12 : decode b_W_draws 12 = .ok (.i2l, 1) := by decide +kernel
theorem d_W_draws_13 : decode b_W_draws 13 = .ok (.lastore, 1) := by decide +kernel
theorem d_W_draws_14 : decode b_W_draws 14 = .ok (.goto 15, 3) := by decide +kernel
theorem d_W_draws_17 : decode b_W_draws 17 = .ok (.astore 7, 2) := by decide +kernel
theorem d_W_draws_19 : decode b_W_draws 19 = .ok (.iconst 1, 1) := by decide +kernel
theorem d_W_draws_20 : decode b_W_draws 20 = .ok (.ireturn, 1) := by decide +kernel
theorem d_W_draws_21 : decode b_W_draws 21 = .ok (.astore 7, 2) := by decide +kernel
theorem d_W_draws_23 : decode b_W_draws 23 = .ok (.iconst 2, 1) := by decide +kernel
theorem d_W_draws_24 : decode b_W_draws 24 = .ok (.ireturn, 1) := by decide +kernel
theorem d_W_draws_25 : decode b_W_draws 25 = .ok (.astore 7, 2) := by decide +kernel
theorem d_W_draws_27 : decode b_W_draws 27 = .ok (.iconst 3, 1) := by decide +kernel
theorem d_W_draws_28 : decode b_W_draws 28 = .ok (.ireturn, 1) := by decide +kernel
theorem d_W_draws_29 : decode b_W_draws 29 = .ok (.iconst 0, 1) := by decide +kernel
theorem d_W_draws_30 : decode b_W_draws 30 = .ok (.ireturn, 1) := by decide +kernel
theorem d_W_charAt_0 : decode b_W_charAt 0 = .ok (.aload_n 2, 1) := by decide +kernel
theorem d_W_charAt_1 : decode b_W_charAt 1 = .ok (.iconst 0, 1) := by decide +kernel
theorem d_W_charAt_2 : decode b_W_charAt 2 = .ok (.aload_n 0, 1) := by decide +kernel
theorem d_W_charAt_3 : decode b_W_charAt 3 = .ok (.iload_n 1, 1) := by decide +kernel
theorem d_W_charAt_4 : decode b_W_charAt 4 = .ok (.invokevirtual 68, 3) := by decide +kernel
theorem d_W_charAt_7 : decode b_W_charAt 7 = .ok (.i2l, 1) := by decide +kernel
theorem d_W_charAt_8 : decode b_W_charAt 8 = .ok (.lastore, 1) := by decide +kernel
theorem d_W_charAt_9 : decode b_W_charAt 9 = .ok (.goto 6, 3) := by decide +kernel
theorem d_W_charAt_12 : decode b_W_charAt 12 = .ok (.astore_n 3, 1) := by decide +kernel
theorem d_W_charAt_13 : decode b_W_charAt 13 = .ok (.iconst 1, 1) := by decide +kernel
theorem d_W_charAt_14 : decode b_W_charAt 14 = .ok (.ireturn, 1) := by decide +kernel
theorem d_W_charAt_15 : decode b_W_charAt 15 = .ok (.iconst 0, 1) := by decide +kernel
theorem d_W_charAt_16 : decode b_W_charAt 16 = .ok (.ireturn, 1) := by decide +kernel
theorem d_W_law_0 : decode b_W_law 0 = .ok (.new 8, 3) := by decide +kernel
theorem d_W_law_3 : decode b_W_law 3 = .ok (.dup, 1) := by decide +kernel
theorem d_W_law_4 : decode b_W_law 4 = .ok (.invokespecial 71, 3) := by decide +kernel
theorem d_W_law_7 : decode b_W_law 7 = .ok (.astore_n 1, 1) := by decide +kernel
theorem d_W_law_8 : decode b_W_law 8 = .ok (.new 72, 3) := by decide +kernel
theorem d_W_law_11 : decode b_W_law 11 = .ok (.dup, 1) := by decide +kernel
theorem d_W_law_12 : decode b_W_law 12 = .ok (.invokespecial 74, 3) := by decide +kernel
theorem d_W_law_15 : decode b_W_law 15 = .ok (.astore_n 2, 1) := by decide +kernel
theorem d_W_law_16 : decode b_W_law 16 = .ok (.iconst 1, 1) := by decide +kernel
theorem d_W_law_17 : decode b_W_law 17 = .ok (.newarray .long, 2) := by decide +kernel
theorem d_W_law_19 : decode b_W_law 19 = .ok (.astore_n 3, 1) := by decide +kernel
theorem d_W_law_20 : decode b_W_law 20 = .ok (.iconst 0, 1) := by decide +kernel
theorem d_W_law_21 : decode b_W_law 21 = .ok (.istore 4, 2) := by decide +kernel
theorem d_W_law_23 : decode b_W_law 23 = .ok (.iload 4, 2) := by decide +kernel
theorem d_W_law_25 : decode b_W_law 25 = .ok (.aload_n 0, 1) := by decide +kernel
theorem d_W_law_26 : decode b_W_law 26 = .ok (.arraylength, 1) := by decide +kernel
theorem d_W_law_27 : decode b_W_law 27 = .ok (.bipush 6, 2) := by decide +kernel
theorem d_W_law_29 : decode b_W_law 29 = .ok (.isub, 1) := by decide +kernel
theorem d_W_law_30 : decode b_W_law 30 = .ok (.if_icmp .gt 1335, 3) := by decide +kernel
theorem d_W_law_33 : decode b_W_law 33 = .ok (.aload_n 0, 1) := by decide +kernel
theorem d_W_law_34 : decode b_W_law 34 = .ok (.iload 4, 2) := by decide +kernel
theorem d_W_law_36 : decode b_W_law 36 = .ok (.iaload, 1) := by decide +kernel
theorem d_W_law_37 : decode b_W_law 37 = .ok (.bipush 31, 2) := by decide +kernel
theorem d_W_law_39 : decode b_W_law 39 = .ok (.iand, 1) := by decide +kernel
theorem d_W_law_40 : decode b_W_law 40 = .ok (.tableswitch 1319 0 19 #[96, 140, 184, 276, 344, 357, 425, 493, 548, 631, 687, 755, 847, 954, 1033, 1157, 1214, 1227, 1283, 1308], 96) := by decide +kernel
theorem d_W_law_136 : decode b_W_law 136 = .ok (.aload_n 1, 1) := by decide +kernel
theorem d_W_law_137 : decode b_W_law 137 = .ok (.aload_n 3, 1) := by decide +kernel
theorem d_W_law_138 : decode b_W_law 138 = .ok (.invokestatic 75, 3) := by decide +kernel
theorem d_W_law_141 : decode b_W_law 141 = .ok (.istore 5, 2) := by decide +kernel
theorem d_W_law_143 : decode b_W_law 143 = .ok (.aload_n 2, 1) := by decide +kernel
theorem d_W_law_144 : decode b_W_law 144 = .ok (.invokevirtual 80, 3) := by decide +kernel
theorem d_W_law_147 : decode b_W_law 147 = .ok (.istore 6, 2) := by decide +kernel
theorem d_W_law_149 : decode b_W_law 149 = .ok (.aload_n 2, 1) := by decide +kernel
theorem d_W_law_150 : decode b_W_law 150 = .ok (.invokevirtual 81, 3) := by decide +kernel
theorem d_W_law_153 : decode b_W_law 153 = .ok (.iload 5, 2) := by decide +kernel
theorem d_W_law_155 : decode b_W_law 155 = .ok (.if_icmp .eq 5, 3) := by decide +kernel
theorem d_W_law_158 : decode b_W_law 158 = .ok (.iconst 0, 1) := by decide +kernel
theorem d_W_law_159 : decode b_W_law 159 = .ok (.ireturn, 1) := by decide +kernel
theorem d_W_law_160 : decode b_W_law 160 = .ok (.iload 5, 2) := by decide +kernel
theorem d_W_law_162 : decode b_W_law 162 = .ok (.ifCond .ne 15, 3) := by decide +kernel
theorem d_W_law_165 : decode b_W_law 165 = .ok (.aload_n 3, 1) := by decide +kernel
theorem d_W_law_166 : decode b_W_law 166 = .ok (.iconst 0, 1) := by decide +kernel
theorem d_W_law_167 : decode b_W_law 167 = .ok (.laload, 1) := by decide +kernel
theorem d_W_law_168 : decode b_W_law 168 = .ok (.iload 6, 2) := by decide +kernel
theorem d_W_law_170 : decode b_W_law 170 = .ok (.i2l, 1) := by decide +kernel
theorem d_W_law_171 : decode b_W_law 171 = .ok (.lcmp, 1) := by decide +kernel
theorem d_W_law_172 : decode b_W_law 172 = .ok (.ifCond .eq 5, 3) := by decide +kernel
theorem d_W_law_175 : decode b_W_law 175 = .ok (.iconst 0, 1) := by decide +kernel
theorem d_W_law_176 : decode b_W_law 176 = .ok (.ireturn, 1) := by decide +kernel
theorem d_W_law_177 : decode b_W_law 177 = .ok (.goto 1182, 3) := by decide +kernel
theorem d_W_law_180 : decode b_W_law 180 = .ok (.aload_n 1, 1) := by decide +kernel
theorem d_W_law_181 : decode b_W_law 181 = .ok (.aload_n 3, 1) := by decide +kernel
theorem d_W_law_182 : decode b_W_law 182 = .ok (.invokestatic 84, 3) := by decide +kernel
theorem d_W_law_185 : decode b_W_law 185 = .ok (.istore 5, 2) := by decide +kernel
theorem d_W_law_187 : decode b_W_law 187 = .ok (.aload_n 2, 1) := by decide +kernel
theorem d_W_law_188 : decode b_W_law 188 = .ok (.invokevirtual 86, 3) := by decide +kernel
theorem d_W_law_191 : decode b_W_law 191 = .ok (.istore 6, 2) := by decide +kernel
theorem d_W_law_193 : decode b_W_law 193 = .ok (.aload_n 2, 1) := by decide +kernel
theorem d_W_law_194 : decode b_W_law 194 = .ok (.invokevirtual 81, 3) := by decide +kernel
theorem d_W_law_197 : decode b_W_law 197 = .ok (.iload 5, 2) := by decide +kernel
theorem d_W_law_199 : decode b_W_law 199 = .ok (.if_icmp .eq 5, 3) := by decide +kernel
theorem d_W_law_202 : decode b_W_law 202 = .ok (.iconst 0, 1) := by decide +kernel
theorem d_W_law_203 : decode b_W_law 203 = .ok (.ireturn, 1) := by decide +kernel
theorem d_W_law_204 : decode b_W_law 204 = .ok (.iload 5, 2) := by decide +kernel
theorem d_W_law_206 : decode b_W_law 206 = .ok (.ifCond .ne 15, 3) := by decide +kernel
theorem d_W_law_209 : decode b_W_law 209 = .ok (.aload_n 3, 1) := by decide +kernel
theorem d_W_law_210 : decode b_W_law 210 = .ok (.iconst 0, 1) := by decide +kernel
theorem d_W_law_211 : decode b_W_law 211 = .ok (.laload, 1) := by decide +kernel
theorem d_W_law_212 : decode b_W_law 212 = .ok (.iload 6, 2) := by decide +kernel
theorem d_W_law_214 : decode b_W_law 214 = .ok (.i2l, 1) := by decide +kernel
theorem d_W_law_215 : decode b_W_law 215 = .ok (.lcmp, 1) := by decide +kernel
theorem d_W_law_216 : decode b_W_law 216 = .ok (.ifCond .eq 5, 3) := by decide +kernel
theorem d_W_law_219 : decode b_W_law 219 = .ok (.iconst 0, 1) := by decide +kernel
theorem d_W_law_220 : decode b_W_law 220 = .ok (.ireturn, 1) := by decide +kernel
theorem d_W_law_221 : decode b_W_law 221 = .ok (.goto 1138, 3) := by decide +kernel
theorem d_W_law_224 : decode b_W_law 224 = .ok (.aload_n 1, 1) := by decide +kernel
theorem d_W_law_225 : decode b_W_law 225 = .ok (.aload_n 0, 1) := by decide +kernel
theorem d_W_law_226 : decode b_W_law 226 = .ok (.iload 4, 2) := by decide +kernel
theorem d_W_law_228 : decode b_W_law 228 = .ok (.iconst 1, 1) := by decide +kernel
theorem d_W_law_229 : decode b_W_law 229 = .ok (.iadd, 1) := by decide +kernel
theorem d_W_law_230 : decode b_W_law 230 = .ok (.iaload, 1) := by decide +kernel
theorem d_W_law_231 : decode b_W_law 231 = .ok (.aload_n 0, 1) := by decide +kernel
theorem d_W_law_232 : decode b_W_law 232 = .ok (.iload 4, 2) := by decide +kernel
theorem d_W_law_234 : decode b_W_law 234 = .ok (.iconst 2, 1) := by decide +kernel
theorem d_W_law_235 : decode b_W_law 235 = .ok (.iadd, 1) := by decide +kernel
theorem d_W_law_236 : decode b_W_law 236 = .ok (.iaload, 1) := by decide +kernel
theorem d_W_law_237 : decode b_W_law 237 = .ok (.aload_n 0, 1) := by decide +kernel
theorem d_W_law_238 : decode b_W_law 238 = .ok (.iload 4, 2) := by decide +kernel
theorem d_W_law_240 : decode b_W_law 240 = .ok (.iconst 3, 1) := by decide +kernel
theorem d_W_law_241 : decode b_W_law 241 = .ok (.iadd, 1) := by decide +kernel
theorem d_W_law_242 : decode b_W_law 242 = .ok (.iaload, 1) := by decide +kernel
theorem d_W_law_243 : decode b_W_law 243 = .ok (.aload_n 0, 1) := by decide +kernel
theorem d_W_law_244 : decode b_W_law 244 = .ok (.iload 4, 2) := by decide +kernel
theorem d_W_law_246 : decode b_W_law 246 = .ok (.iconst 4, 1) := by decide +kernel
theorem d_W_law_247 : decode b_W_law 247 = .ok (.iadd, 1) := by decide +kernel
theorem d_W_law_248 : decode b_W_law 248 = .ok (.iaload, 1) := by decide +kernel
theorem d_W_law_249 : decode b_W_law 249 = .ok (.aload_n 3, 1) := by decide +kernel
theorem d_W_law_250 : decode b_W_law 250 = .ok (.invokestatic 87, 3) := by decide +kernel
theorem d_W_law_253 : decode b_W_law 253 = .ok (.istore 5, 2) := by decide +kernel
theorem d_W_law_255 : decode b_W_law 255 = .ok (.aload_n 2, 1) := by decide +kernel
theorem d_W_law_256 : decode b_W_law 256 = .ok (.aload_n 0, 1) := by decide +kernel
theorem d_W_law_257 : decode b_W_law 257 = .ok (.iload 4, 2) := by decide +kernel
theorem d_W_law_259 : decode b_W_law 259 = .ok (.iconst 1, 1) := by decide +kernel
theorem d_W_law_260 : decode b_W_law 260 = .ok (.iadd, 1) := by decide +kernel
theorem d_W_law_261 : decode b_W_law 261 = .ok (.iaload, 1) := by decide +kernel
theorem d_W_law_262 : decode b_W_law 262 = .ok (.aload_n 0, 1) := by decide +kernel
theorem d_W_law_263 : decode b_W_law 263 = .ok (.iload 4, 2) := by decide +kernel
theorem d_W_law_265 : decode b_W_law 265 = .ok (.iconst 2, 1) := by decide +kernel
theorem d_W_law_266 : decode b_W_law 266 = .ok (.iadd, 1) := by decide +kernel
theorem d_W_law_267 : decode b_W_law 267 = .ok (.iaload, 1) := by decide +kernel
theorem d_W_law_268 : decode b_W_law 268 = .ok (.aload_n 0, 1) := by decide +kernel
theorem d_W_law_269 : decode b_W_law 269 = .ok (.iload 4, 2) := by decide +kernel
theorem d_W_law_271 : decode b_W_law 271 = .ok (.iconst 3, 1) := by decide +kernel
theorem d_W_law_272 : decode b_W_law 272 = .ok (.iadd, 1) := by decide +kernel
theorem d_W_law_273 : decode b_W_law 273 = .ok (.iaload, 1) := by decide +kernel
theorem d_W_law_274 : decode b_W_law 274 = .ok (.aload_n 0, 1) := by decide +kernel
theorem d_W_law_275 : decode b_W_law 275 = .ok (.iload 4, 2) := by decide +kernel
theorem d_W_law_277 : decode b_W_law 277 = .ok (.iconst 4, 1) := by decide +kernel
theorem d_W_law_278 : decode b_W_law 278 = .ok (.iadd, 1) := by decide +kernel
theorem d_W_law_279 : decode b_W_law 279 = .ok (.iaload, 1) := by decide +kernel
theorem d_W_law_280 : decode b_W_law 280 = .ok (.invokevirtual 90, 3) := by decide +kernel
theorem d_W_law_283 : decode b_W_law 283 = .ok (.istore 6, 2) := by decide +kernel
theorem d_W_law_285 : decode b_W_law 285 = .ok (.aload_n 2, 1) := by decide +kernel
theorem d_W_law_286 : decode b_W_law 286 = .ok (.invokevirtual 81, 3) := by decide +kernel
theorem d_W_law_289 : decode b_W_law 289 = .ok (.iload 5, 2) := by decide +kernel
theorem d_W_law_291 : decode b_W_law 291 = .ok (.if_icmp .eq 5, 3) := by decide +kernel
theorem d_W_law_294 : decode b_W_law 294 = .ok (.iconst 0, 1) := by decide +kernel
theorem d_W_law_295 : decode b_W_law 295 = .ok (.ireturn, 1) := by decide +kernel
theorem d_W_law_296 : decode b_W_law 296 = .ok (.iload 5, 2) := by decide +kernel
theorem d_W_law_298 : decode b_W_law 298 = .ok (.ifCond .ne 15, 3) := by decide +kernel
theorem d_W_law_301 : decode b_W_law 301 = .ok (.aload_n 3, 1) := by decide +kernel
theorem d_W_law_302 : decode b_W_law 302 = .ok (.iconst 0, 1) := by decide +kernel
theorem d_W_law_303 : decode b_W_law 303 = .ok (.laload, 1) := by decide +kernel
theorem d_W_law_304 : decode b_W_law 304 = .ok (.iload 6, 2) := by decide +kernel
theorem d_W_law_306 : decode b_W_law 306 = .ok (.i2l, 1) := by decide +kernel
theorem d_W_law_307 : decode b_W_law 307 = .ok (.lcmp, 1) := by decide +kernel
theorem d_W_law_308 : decode b_W_law 308 = .ok (.ifCond .eq 5, 3) := by decide +kernel
theorem d_W_law_311 : decode b_W_law 311 = .ok (.iconst 0, 1) := by decide +kernel
theorem d_W_law_312 : decode b_W_law 312 = .ok (.ireturn, 1) := by decide +kernel
theorem d_W_law_313 : decode b_W_law 313 = .ok (.goto 1046, 3) := by decide +kernel
theorem d_W_law_316 : decode b_W_law 316 = .ok (.aload_n 1, 1) := by decide +kernel
theorem d_W_law_317 : decode b_W_law 317 = .ok (.aload_n 0, 1) := by decide +kernel
theorem d_W_law_318 : decode b_W_law 318 = .ok (.iload 4, 2) := by decide +kernel
theorem d_W_law_320 : decode b_W_law 320 = .ok (.iconst 1, 1) := by decide +kernel
theorem d_W_law_321 : decode b_W_law 321 = .ok (.iadd, 1) := by decide +kernel
theorem d_W_law_322 : decode b_W_law 322 = .ok (.iaload, 1) := by decide +kernel
theorem d_W_law_323 : decode b_W_law 323 = .ok (.aload_n 0, 1) := by decide +kernel
theorem d_W_law_324 : decode b_W_law 324 = .ok (.iload 4, 2) := by decide +kernel
theorem d_W_law_326 : decode b_W_law 326 = .ok (.iconst 2, 1) := by decide +kernel
theorem d_W_law_327 : decode b_W_law 327 = .ok (.iadd, 1) := by decide +kernel
theorem d_W_law_328 : decode b_W_law 328 = .ok (.iaload, 1) := by decide +kernel
theorem d_W_law_329 : decode b_W_law 329 = .ok (.aload_n 3, 1) := by decide +kernel
theorem d_W_law_330 : decode b_W_law 330 = .ok (.invokestatic 91, 3) := by decide +kernel
theorem d_W_law_333 : decode b_W_law 333 = .ok (.istore 5, 2) := by decide +kernel
theorem d_W_law_335 : decode b_W_law 335 = .ok (.aload_n 2, 1) := by decide +kernel
theorem d_W_law_336 : decode b_W_law 336 = .ok (.aload_n 0, 1) := by decide +kernel
theorem d_W_law_337 : decode b_W_law 337 = .ok (.iload 4, 2) := by decide +kernel
theorem d_W_law_339 : decode b_W_law 339 = .ok (.iconst 1, 1) := by decide +kernel
theorem d_W_law_340 : decode b_W_law 340 = .ok (.iadd, 1) := by decide +kernel
theorem d_W_law_341 : decode b_W_law 341 = .ok (.iaload, 1) := by decide +kernel
theorem d_W_law_342 : decode b_W_law 342 = .ok (.aload_n 0, 1) := by decide +kernel
theorem d_W_law_343 : decode b_W_law 343 = .ok (.iload 4, 2) := by decide +kernel
theorem d_W_law_345 : decode b_W_law 345 = .ok (.iconst 2, 1) := by decide +kernel
theorem d_W_law_346 : decode b_W_law 346 = .ok (.iadd, 1) := by decide +kernel
theorem d_W_law_347 : decode b_W_law 347 = .ok (.iaload, 1) := by decide +kernel
theorem d_W_law_348 : decode b_W_law 348 = .ok (.invokevirtual 94, 3) := by decide +kernel
theorem d_W_law_351 : decode b_W_law 351 = .ok (.istore 6, 2) := by decide +kernel
theorem d_W_law_353 : decode b_W_law 353 = .ok (.aload_n 2, 1) := by decide +kernel
theorem d_W_law_354 : decode b_W_law 354 = .ok (.invokevirtual 81, 3) := by decide +kernel
theorem d_W_law_357 : decode b_W_law 357 = .ok (.iload 5, 2) := by decide +kernel
theorem d_W_law_359 : decode b_W_law 359 = .ok (.if_icmp .eq 5, 3) := by decide +kernel
theorem d_W_law_362 : decode b_W_law 362 = .ok (.iconst 0, 1) := by decide +kernel
theorem d_W_law_363 : decode b_W_law 363 = .ok (.ireturn, 1) := by decide +kernel
theorem d_W_law_364 : decode b_W_law 364 = .ok (.iload 5, 2) := by decide +kernel
theorem d_W_law_366 : decode b_W_law 366 = .ok (.ifCond .ne 15, 3) := by decide +kernel
theorem d_W_law_369 : decode b_W_law 369 = .ok (.aload_n 3, 1) := by decide +kernel
theorem d_W_law_370 : decode b_W_law 370 = .ok (.iconst 0, 1) := by decide +kernel
theorem d_W_law_371 : decode b_W_law 371 = .ok (.laload, 1) := by decide +kernel
theorem d_W_law_372 : decode b_W_law 372 = .ok (.iload 6, 2) := by decide +kernel
theorem d_W_law_374 : decode b_W_law 374 = .ok (.i2l, 1) := by decide +kernel
theorem d_W_law_375 : decode b_W_law 375 = .ok (.lcmp, 1) := by decide +kernel
theorem d_W_law_376 : decode b_W_law 376 = .ok (.ifCond .eq 5, 3) := by decide +kernel
theorem d_W_law_379 : decode b_W_law 379 = .ok (.iconst 0, 1) := by decide +kernel
theorem d_W_law_380 : decode b_W_law 380 = .ok (.ireturn, 1) := by decide +kernel
theorem d_W_law_381 : decode b_W_law 381 = .ok (.goto 978, 3) := by decide +kernel
theorem d_W_law_384 : decode b_W_law 384 = .ok (.aload_n 1, 1) := by decide +kernel
theorem d_W_law_385 : decode b_W_law 385 = .ok (.invokevirtual 95, 3) := by decide +kernel
theorem d_W_law_388 : decode b_W_law 388 = .ok (.aload_n 2, 1) := by decide +kernel
theorem d_W_law_389 : decode b_W_law 389 = .ok (.invokevirtual 98, 3) := by decide +kernel
theorem d_W_law_392 : decode b_W_law 392 = .ok (.if_icmp .eq 967, 3) := by decide +kernel
theorem d_W_law_395 : decode b_W_law 395 = .ok (.iconst 0, 1) := by decide +kernel
theorem d_W_law_396 : decode b_W_law 396 = .ok (.ireturn, 1) := by decide +kernel
theorem d_W_law_397 : decode b_W_law 397 = .ok (.aload_n 1, 1) := by decide +kernel
theorem d_W_law_398 : decode b_W_law 398 = .ok (.aload_n 0, 1) := by decide +kernel
theorem d_W_law_399 : decode b_W_law 399 = .ok (.iload 4, 2) := by decide +kernel
theorem d_W_law_401 : decode b_W_law 401 = .ok (.iconst 1, 1) := by decide +kernel
theorem d_W_law_402 : decode b_W_law 402 = .ok (.iadd, 1) := by decide +kernel
theorem d_W_law_403 : decode b_W_law 403 = .ok (.iaload, 1) := by decide +kernel
theorem d_W_law_404 : decode b_W_law 404 = .ok (.aload_n 0, 1) := by decide +kernel
theorem d_W_law_405 : decode b_W_law 405 = .ok (.iload 4, 2) := by decide +kernel
theorem d_W_law_407 : decode b_W_law 407 = .ok (.iconst 2, 1) := by decide +kernel
theorem d_W_law_408 : decode b_W_law 408 = .ok (.iadd, 1) := by decide +kernel
theorem d_W_law_409 : decode b_W_law 409 = .ok (.iaload, 1) := by decide +kernel
theorem d_W_law_410 : decode b_W_law 410 = .ok (.aload_n 3, 1) := by decide +kernel
theorem d_W_law_411 : decode b_W_law 411 = .ok (.invokestatic 99, 3) := by decide +kernel
theorem d_W_law_414 : decode b_W_law 414 = .ok (.istore 5, 2) := by decide +kernel
theorem d_W_law_416 : decode b_W_law 416 = .ok (.aload_n 2, 1) := by decide +kernel
theorem d_W_law_417 : decode b_W_law 417 = .ok (.aload_n 0, 1) := by decide +kernel
theorem d_W_law_418 : decode b_W_law 418 = .ok (.iload 4, 2) := by decide +kernel
theorem d_W_law_420 : decode b_W_law 420 = .ok (.iconst 1, 1) := by decide +kernel
theorem d_W_law_421 : decode b_W_law 421 = .ok (.iadd, 1) := by decide +kernel
theorem d_W_law_422 : decode b_W_law 422 = .ok (.iaload, 1) := by decide +kernel
theorem d_W_law_423 : decode b_W_law 423 = .ok (.aload_n 0, 1) := by decide +kernel
theorem d_W_law_424 : decode b_W_law 424 = .ok (.iload 4, 2) := by decide +kernel
theorem d_W_law_426 : decode b_W_law 426 = .ok (.iconst 2, 1) := by decide +kernel
theorem d_W_law_427 : decode b_W_law 427 = .ok (.iadd, 1) := by decide +kernel
theorem d_W_law_428 : decode b_W_law 428 = .ok (.iaload, 1) := by decide +kernel
theorem d_W_law_429 : decode b_W_law 429 = .ok (.invokevirtual 101, 3) := by decide +kernel
theorem d_W_law_432 : decode b_W_law 432 = .ok (.istore 6, 2) := by decide +kernel
theorem d_W_law_434 : decode b_W_law 434 = .ok (.aload_n 2, 1) := by decide +kernel
theorem d_W_law_435 : decode b_W_law 435 = .ok (.invokevirtual 81, 3) := by decide +kernel
theorem d_W_law_438 : decode b_W_law 438 = .ok (.iload 5, 2) := by decide +kernel
theorem d_W_law_440 : decode b_W_law 440 = .ok (.if_icmp .eq 5, 3) := by decide +kernel
theorem d_W_law_443 : decode b_W_law 443 = .ok (.iconst 0, 1) := by decide +kernel
theorem d_W_law_444 : decode b_W_law 444 = .ok (.ireturn, 1) := by decide +kernel
theorem d_W_law_445 : decode b_W_law 445 = .ok (.iload 5, 2) := by decide +kernel
theorem d_W_law_447 : decode b_W_law 447 = .ok (.ifCond .ne 15, 3) := by decide +kernel
theorem d_W_law_450 : decode b_W_law 450 = .ok (.aload_n 3, 1) := by decide +kernel
theorem d_W_law_451 : decode b_W_law 451 = .ok (.iconst 0, 1) := by decide +kernel
theorem d_W_law_452 : decode b_W_law 452 = .ok (.laload, 1) := by decide +kernel
theorem d_W_law_453 : decode b_W_law 453 = .ok (.iload 6, 2) := by decide +kernel
theorem d_W_law_455 : decode b_W_law 455 = .ok (.i2l, 1) := by decide +kernel
theorem d_W_law_456 : decode b_W_law 456 = .ok (.lcmp, 1) := by decide +kernel
theorem d_W_law_457 : decode b_W_law 457 = .ok (.ifCond .eq 5, 3) := by decide +kernel
theorem d_W_law_460 : decode b_W_law 460 = .ok (.iconst 0, 1) := by decide +kernel
theorem d_W_law_461 : decode b_W_law 461 = .ok (.ireturn, 1) := by decide +kernel
theorem d_W_law_462 : decode b_W_law 462 = .ok (.goto 897, 3) := by decide +kernel
theorem d_W_law_465 : decode b_W_law 465 = .ok (.aload_n 1, 1) := by decide +kernel
theorem d_W_law_466 : decode b_W_law 466 = .ok (.aload_n 0, 1) := by decide +kernel
theorem d_W_law_467 : decode b_W_law 467 = .ok (.iload 4, 2) := by decide +kernel
theorem d_W_law_469 : decode b_W_law 469 = .ok (.iconst 1, 1) := by decide +kernel
theorem d_W_law_470 : decode b_W_law 470 = .ok (.iadd, 1) := by decide +kernel
theorem d_W_law_471 : decode b_W_law 471 = .ok (.iaload, 1) := by decide +kernel
theorem d_W_law_472 : decode b_W_law 472 = .ok (.aload_n 0, 1) := by decide +kernel
theorem d_W_law_473 : decode b_W_law 473 = .ok (.iload 4, 2) := by decide +kernel
theorem d_W_law_475 : decode b_W_law 475 = .ok (.iconst 2, 1) := by decide +kernel
theorem d_W_law_476 : decode b_W_law 476 = .ok (.iadd, 1) := by decide +kernel
theorem d_W_law_477 : decode b_W_law 477 = .ok (.iaload, 1) := by decide +kernel
theorem d_W_law_478 : decode b_W_law 478 = .ok (.aload_n 3, 1) := by decide +kernel
theorem d_W_law_479 : decode b_W_law 479 = .ok (.invokestatic 102, 3) := by decide +kernel
theorem d_W_law_482 : decode b_W_law 482 = .ok (.istore 5, 2) := by decide +kernel
theorem d_W_law_484 : decode b_W_law 484 = .ok (.aload_n 2, 1) := by decide +kernel
theorem d_W_law_485 : decode b_W_law 485 = .ok (.aload_n 0, 1) := by decide +kernel
theorem d_W_law_486 : decode b_W_law 486 = .ok (.iload 4, 2) := by decide +kernel
theorem d_W_law_488 : decode b_W_law 488 = .ok (.iconst 1, 1) := by decide +kernel
theorem d_W_law_489 : decode b_W_law 489 = .ok (.iadd, 1) := by decide +kernel
theorem d_W_law_490 : decode b_W_law 490 = .ok (.iaload, 1) := by decide +kernel
theorem d_W_law_491 : decode b_W_law 491 = .ok (.aload_n 0, 1) := by decide +kernel
theorem d_W_law_492 : decode b_W_law 492 = .ok (.iload 4, 2) := by decide +kernel
theorem d_W_law_494 : decode b_W_law 494 = .ok (.iconst 2, 1) := by decide +kernel
theorem d_W_law_495 : decode b_W_law 495 = .ok (.iadd, 1) := by decide +kernel
theorem d_W_law_496 : decode b_W_law 496 = .ok (.iaload, 1) := by decide +kernel
theorem d_W_law_497 : decode b_W_law 497 = .ok (.invokevirtual 104, 3) := by decide +kernel
theorem d_W_law_500 : decode b_W_law 500 = .ok (.istore 6, 2) := by decide +kernel
theorem d_W_law_502 : decode b_W_law 502 = .ok (.aload_n 2, 1) := by decide +kernel
theorem d_W_law_503 : decode b_W_law 503 = .ok (.invokevirtual 81, 3) := by decide +kernel
theorem d_W_law_506 : decode b_W_law 506 = .ok (.iload 5, 2) := by decide +kernel
theorem d_W_law_508 : decode b_W_law 508 = .ok (.if_icmp .eq 5, 3) := by decide +kernel
theorem d_W_law_511 : decode b_W_law 511 = .ok (.iconst 0, 1) := by decide +kernel
theorem d_W_law_512 : decode b_W_law 512 = .ok (.ireturn, 1) := by decide +kernel
theorem d_W_law_513 : decode b_W_law 513 = .ok (.iload 5, 2) := by decide +kernel
theorem d_W_law_515 : decode b_W_law 515 = .ok (.ifCond .ne 15, 3) := by decide +kernel
theorem d_W_law_518 : decode b_W_law 518 = .ok (.aload_n 3, 1) := by decide +kernel
theorem d_W_law_519 : decode b_W_law 519 = .ok (.iconst 0, 1) := by decide +kernel
theorem d_W_law_520 : decode b_W_law 520 = .ok (.laload, 1) := by decide +kernel
theorem d_W_law_521 : decode b_W_law 521 = .ok (.iload 6, 2) := by decide +kernel
theorem d_W_law_523 : decode b_W_law 523 = .ok (.i2l, 1) := by decide +kernel
theorem d_W_law_524 : decode b_W_law 524 = .ok (.lcmp, 1) := by decide +kernel
theorem d_W_law_525 : decode b_W_law 525 = .ok (.ifCond .eq 5, 3) := by decide +kernel
theorem d_W_law_528 : decode b_W_law 528 = .ok (.iconst 0, 1) := by decide +kernel
theorem d_W_law_529 : decode b_W_law 529 = .ok (.ireturn, 1) := by decide +kernel
theorem d_W_law_530 : decode b_W_law 530 = .ok (.goto 829, 3) := by decide +kernel
theorem d_W_law_533 : decode b_W_law 533 = .ok (.aload_n 1, 1) := by decide +kernel
theorem d_W_law_534 : decode b_W_law 534 = .ok (.aload_n 0, 1) := by decide +kernel
theorem d_W_law_535 : decode b_W_law 535 = .ok (.iload 4, 2) := by decide +kernel
theorem d_W_law_537 : decode b_W_law 537 = .ok (.iconst 1, 1) := by decide +kernel
theorem d_W_law_538 : decode b_W_law 538 = .ok (.iadd, 1) := by decide +kernel
theorem d_W_law_539 : decode b_W_law 539 = .ok (.iaload, 1) := by decide +kernel
theorem d_W_law_540 : decode b_W_law 540 = .ok (.aload_n 3, 1) := by decide +kernel
theorem d_W_law_541 : decode b_W_law 541 = .ok (.invokestatic 105, 3) := by decide +kernel
theorem d_W_law_544 : decode b_W_law 544 = .ok (.istore 5, 2) := by decide +kernel
theorem d_W_law_546 : decode b_W_law 546 = .ok (.aload_n 2, 1) := by decide +kernel
theorem d_W_law_547 : decode b_W_law 547 = .ok (.aload_n 0, 1) := by decide +kernel
theorem d_W_law_548 : decode b_W_law 548 = .ok (.iload 4, 2) := by decide +kernel
theorem d_W_law_550 : decode b_W_law 550 = .ok (.iconst 1, 1) := by decide +kernel
theorem d_W_law_551 : decode b_W_law 551 = .ok (.iadd, 1) := by decide +kernel
theorem d_W_law_552 : decode b_W_law 552 = .ok (.iaload, 1) := by decide +kernel
theorem d_W_law_553 : decode b_W_law 553 = .ok (.invokevirtual 108, 3) := by decide +kernel
theorem d_W_law_556 : decode b_W_law 556 = .ok (.lstore 6, 2) := by decide +kernel
theorem d_W_law_558 : decode b_W_law 558 = .ok (.aload_n 2, 1) := by decide +kernel
theorem d_W_law_559 : decode b_W_law 559 = .ok (.invokevirtual 81, 3) := by decide +kernel
theorem d_W_law_562 : decode b_W_law 562 = .ok (.iload 5, 2) := by decide +kernel
theorem d_W_law_564 : decode b_W_law 564 = .ok (.if_icmp .eq 5, 3) := by decide +kernel
theorem d_W_law_567 : decode b_W_law 567 = .ok (.iconst 0, 1) := by decide +kernel
theorem d_W_law_568 : decode b_W_law 568 = .ok (.ireturn, 1) := by decide +kernel
theorem d_W_law_569 : decode b_W_law 569 = .ok (.iload 5, 2) := by decide +kernel
theorem d_W_law_571 : decode b_W_law 571 = .ok (.ifCond .ne 14, 3) := by decide +kernel
theorem d_W_law_574 : decode b_W_law 574 = .ok (.aload_n 3, 1) := by decide +kernel
theorem d_W_law_575 : decode b_W_law 575 = .ok (.iconst 0, 1) := by decide +kernel
theorem d_W_law_576 : decode b_W_law 576 = .ok (.laload, 1) := by decide +kernel
theorem d_W_law_577 : decode b_W_law 577 = .ok (.lload 6, 2) := by decide +kernel
theorem d_W_law_579 : decode b_W_law 579 = .ok (.lcmp, 1) := by decide +kernel
theorem d_W_law_580 : decode b_W_law 580 = .ok (.ifCond .eq 5, 3) := by decide +kernel
theorem d_W_law_583 : decode b_W_law 583 = .ok (.iconst 0, 1) := by decide +kernel
theorem d_W_law_584 : decode b_W_law 584 = .ok (.ireturn, 1) := by decide +kernel
theorem d_W_law_585 : decode b_W_law 585 = .ok (.goto 774, 3) := by decide +kernel
theorem d_W_law_588 : decode b_W_law 588 = .ok (.aload_n 1, 1) := by decide +kernel
theorem d_W_law_589 : decode b_W_law 589 = .ok (.aload_n 0, 1) := by decide +kernel
theorem d_W_law_590 : decode b_W_law 590 = .ok (.iload 4, 2) := by decide +kernel
theorem d_W_law_592 : decode b_W_law 592 = .ok (.iconst 1, 1) := by decide +kernel
theorem d_W_law_593 : decode b_W_law 593 = .ok (.iadd, 1) := by decide +kernel
theorem d_W_law_594 : decode b_W_law 594 = .ok (.iaload, 1) := by decide +kernel
theorem d_W_law_595 : decode b_W_law 595 = .ok (.aload_n 0, 1) := by decide +kernel
theorem d_W_law_596 : decode b_W_law 596 = .ok (.iload 4, 2) := by decide +kernel
theorem d_W_law_598 : decode b_W_law 598 = .ok (.iconst 2, 1) := by decide +kernel
theorem d_W_law_599 : decode b_W_law 599 = .ok (.iadd, 1) := by decide +kernel
theorem d_W_law_600 : decode b_W_law 600 = .ok (.iaload, 1) := by decide +kernel
theorem d_W_law_601 : decode b_W_law 601 = .ok (.ifCond .eq 7, 3) := by decide +kernel
theorem d_W_law_604 : decode b_W_law 604 = .ok (.iconst 1, 1) := by decide +kernel
theorem d_W_law_605 : decode b_W_law 605 = .ok (.goto 4, 3) := by decide +kernel
theorem d_W_law_608 : decode b_W_law 608 = .ok (.iconst 0, 1) := by decide +kernel
theorem d_W_law_609 : decode b_W_law 609 = .ok (.aload_n 3, 1) := by decide +kernel
theorem d_W_law_610 : decode b_W_law 610 = .ok (.invokestatic 109, 3) := by decide +kernel
theorem d_W_law_613 : decode b_W_law 613 = .ok (.istore 5, 2) := by decide +kernel
theorem d_W_law_615 : decode b_W_law 615 = .ok (.aload_n 2, 1) := by decide +kernel
theorem d_W_law_616 : decode b_W_law 616 = .ok (.aload_n 0, 1) := by decide +kernel
theorem d_W_law_617 : decode b_W_law 617 = .ok (.iload 4, 2) := by decide +kernel
theorem d_W_law_619 : decode b_W_law 619 = .ok (.iconst 1, 1) := by decide +kernel
theorem d_W_law_620 : decode b_W_law 620 = .ok (.iadd, 1) := by decide +kernel
theorem d_W_law_621 : decode b_W_law 621 = .ok (.iaload, 1) := by decide +kernel
theorem d_W_law_622 : decode b_W_law 622 = .ok (.aload_n 0, 1) := by decide +kernel
theorem d_W_law_623 : decode b_W_law 623 = .ok (.iload 4, 2) := by decide +kernel
theorem d_W_law_625 : decode b_W_law 625 = .ok (.iconst 2, 1) := by decide +kernel
theorem d_W_law_626 : decode b_W_law 626 = .ok (.iadd, 1) := by decide +kernel
theorem d_W_law_627 : decode b_W_law 627 = .ok (.iaload, 1) := by decide +kernel
theorem d_W_law_628 : decode b_W_law 628 = .ok (.ifCond .eq 7, 3) := by decide +kernel
theorem d_W_law_631 : decode b_W_law 631 = .ok (.iconst 1, 1) := by decide +kernel
theorem d_W_law_632 : decode b_W_law 632 = .ok (.goto 4, 3) := by decide +kernel
theorem d_W_law_635 : decode b_W_law 635 = .ok (.iconst 0, 1) := by decide +kernel
theorem d_W_law_636 : decode b_W_law 636 = .ok (.invokevirtual 112, 3) := by decide +kernel
theorem d_W_law_639 : decode b_W_law 639 = .ok (.lstore 6, 2) := by decide +kernel
theorem d_W_law_641 : decode b_W_law 641 = .ok (.aload_n 2, 1) := by decide +kernel
theorem d_W_law_642 : decode b_W_law 642 = .ok (.invokevirtual 81, 3) := by decide +kernel
theorem d_W_law_645 : decode b_W_law 645 = .ok (.iload 5, 2) := by decide +kernel
theorem d_W_law_647 : decode b_W_law 647 = .ok (.if_icmp .eq 5, 3) := by decide +kernel
theorem d_W_law_650 : decode b_W_law 650 = .ok (.iconst 0, 1) := by decide +kernel
theorem d_W_law_651 : decode b_W_law 651 = .ok (.ireturn, 1) := by decide +kernel
theorem d_W_law_652 : decode b_W_law 652 = .ok (.iload 5, 2) := by decide +kernel
theorem d_W_law_654 : decode b_W_law 654 = .ok (.ifCond .ne 14, 3) := by decide +kernel
theorem d_W_law_657 : decode b_W_law 657 = .ok (.aload_n 3, 1) := by decide +kernel
theorem d_W_law_658 : decode b_W_law 658 = .ok (.iconst 0, 1) := by decide +kernel
theorem d_W_law_659 : decode b_W_law 659 = .ok (.laload, 1) := by decide +kernel
theorem d_W_law_660 : decode b_W_law 660 = .ok (.lload 6, 2) := by decide +kernel
theorem d_W_law_662 : decode b_W_law 662 = .ok (.lcmp, 1) := by decide +kernel
theorem d_W_law_663 : decode b_W_law 663 = .ok (.ifCond .eq 5, 3) := by decide +kernel
theorem d_W_law_666 : decode b_W_law 666 = .ok (.iconst 0, 1) := by decide +kernel
theorem d_W_law_667 : decode b_W_law 667 = .ok (.ireturn, 1) := by decide +kernel
theorem d_W_law_668 : decode b_W_law 668 = .ok (.goto 691, 3) := by decide +kernel
theorem d_W_law_671 : decode b_W_law 671 = .ok (.aload_n 1, 1) := by decide +kernel
theorem d_W_law_672 : decode b_W_law 672 = .ok (.aload_n 0, 1) := by decide +kernel
theorem d_W_law_673 : decode b_W_law 673 = .ok (.iload 4, 2) := by decide +kernel
theorem d_W_law_675 : decode b_W_law 675 = .ok (.iconst 1, 1) := by decide +kernel
theorem d_W_law_676 : decode b_W_law 676 = .ok (.iadd, 1) := by decide +kernel
theorem d_W_law_677 : decode b_W_law 677 = .ok (.iaload, 1) := by decide +kernel
theorem d_W_law_678 : decode b_W_law 678 = .ok (.aload_n 3, 1) := by decide +kernel
theorem d_W_law_679 : decode b_W_law 679 = .ok (.invokestatic 113, 3) := by decide +kernel
theorem d_W_law_682 : decode b_W_law 682 = .ok (.istore 5, 2) := by decide +kernel
theorem d_W_law_684 : decode b_W_law 684 = .ok (.aload_n 2, 1) := by decide +kernel
theorem d_W_law_685 : decode b_W_law 685 = .ok (.aload_n 0, 1) := by decide +kernel
theorem d_W_law_686 : decode b_W_law 686 = .ok (.iload 4, 2) := by decide +kernel
theorem d_W_law_688 : decode b_W_law 688 = .ok (.iconst 1, 1) := by decide +kernel
theorem d_W_law_689 : decode b_W_law 689 = .ok (.iadd, 1) := by decide +kernel
theorem d_W_law_690 : decode b_W_law 690 = .ok (.iaload, 1) := by decide +kernel
theorem d_W_law_691 : decode b_W_law 691 = .ok (.invokevirtual 115, 3) := by decide +kernel
theorem d_W_law_694 : decode b_W_law 694 = .ok (.istore 6, 2) := by decide +kernel
theorem d_W_law_696 : decode b_W_law 696 = .ok (.aload_n 2, 1) := by decide +kernel
theorem d_W_law_697 : decode b_W_law 697 = .ok (.invokevirtual 81, 3) := by decide +kernel
theorem d_W_law_700 : decode b_W_law 700 = .ok (.iload 5, 2) := by decide +kernel
theorem d_W_law_702 : decode b_W_law 702 = .ok (.if_icmp .eq 5, 3) := by decide +kernel
theorem d_W_law_705 : decode b_W_law 705 = .ok (.iconst 0, 1) := by decide +kernel
theorem d_W_law_706 : decode b_W_law 706 = .ok (.ireturn, 1) := by decide +kernel
theorem d_W_law_707 : decode b_W_law 707 = .ok (.iload 5, 2) := by decide +kernel
theorem d_W_law_709 : decode b_W_law 709 = .ok (.ifCond .ne 15, 3) := by decide +kernel
theorem d_W_law_712 : decode b_W_law 712 = .ok (.aload_n 3, 1) := by decide +kernel
theorem d_W_law_713 : decode b_W_law 713 = .ok (.iconst 0, 1) := by decide +kernel
theorem d_W_law_714 : decode b_W_law 714 = .ok (.laload, 1) := by decide +kernel
theorem d_W_law_715 : decode b_W_law 715 = .ok (.iload 6, 2) := by decide +kernel
theorem d_W_law_717 : decode b_W_law 717 = .ok (.i2l, 1) := by decide +kernel
theorem d_W_law_718 : decode b_W_law 718 = .ok (.lcmp, 1) := by decide +kernel
theorem d_W_law_719 : decode b_W_law 719 = .ok (.ifCond .eq 5, 3) := by decide +kernel
theorem d_W_law_722 : decode b_W_law 722 = .ok (.iconst 0, 1) := by decide +kernel
theorem d_W_law_723 : decode b_W_law 723 = .ok (.ireturn, 1) := by decide +kernel
theorem d_W_law_724 : decode b_W_law 724 = .ok (.goto 635, 3) := by decide +kernel
theorem d_W_law_727 : decode b_W_law 727 = .ok (.aload_n 1, 1) := by decide +kernel
theorem d_W_law_728 : decode b_W_law 728 = .ok (.aload_n 0, 1) := by decide +kernel
theorem d_W_law_729 : decode b_W_law 729 = .ok (.iload 4, 2) := by decide +kernel
theorem d_W_law_731 : decode b_W_law 731 = .ok (.iconst 1, 1) := by decide +kernel
theorem d_W_law_732 : decode b_W_law 732 = .ok (.iadd, 1) := by decide +kernel
theorem d_W_law_733 : decode b_W_law 733 = .ok (.iaload, 1) := by decide +kernel
theorem d_W_law_734 : decode b_W_law 734 = .ok (.aload_n 0, 1) := by decide +kernel
theorem d_W_law_735 : decode b_W_law 735 = .ok (.iload 4, 2) := by decide +kernel
theorem d_W_law_737 : decode b_W_law 737 = .ok (.iconst 2, 1) := by decide +kernel
theorem d_W_law_738 : decode b_W_law 738 = .ok (.iadd, 1) := by decide +kernel
theorem d_W_law_739 : decode b_W_law 739 = .ok (.iaload, 1) := by decide +kernel
theorem d_W_law_740 : decode b_W_law 740 = .ok (.aload_n 3, 1) := by decide +kernel
theorem d_W_law_741 : decode b_W_law 741 = .ok (.invokestatic 116, 3) := by decide +kernel
theorem d_W_law_744 : decode b_W_law 744 = .ok (.istore 5, 2) := by decide +kernel
theorem d_W_law_746 : decode b_W_law 746 = .ok (.aload_n 2, 1) := by decide +kernel
theorem d_W_law_747 : decode b_W_law 747 = .ok (.aload_n 0, 1) := by decide +kernel
theorem d_W_law_748 : decode b_W_law 748 = .ok (.iload 4, 2) := by decide +kernel
theorem d_W_law_750 : decode b_W_law 750 = .ok (.iconst 1, 1) := by decide +kernel
theorem d_W_law_751 : decode b_W_law 751 = .ok (.iadd, 1) := by decide +kernel
theorem d_W_law_752 : decode b_W_law 752 = .ok (.iaload, 1) := by decide +kernel
theorem d_W_law_753 : decode b_W_law 753 = .ok (.aload_n 0, 1) := by decide +kernel
theorem d_W_law_754 : decode b_W_law 754 = .ok (.iload 4, 2) := by decide +kernel
theorem d_W_law_756 : decode b_W_law 756 = .ok (.iconst 2, 1) := by decide +kernel
theorem d_W_law_757 : decode b_W_law 757 = .ok (.iadd, 1) := by decide +kernel
theorem d_W_law_758 : decode b_W_law 758 = .ok (.iaload, 1) := by decide +kernel
theorem d_W_law_759 : decode b_W_law 759 = .ok (.invokevirtual 118, 3) := by decide +kernel
theorem d_W_law_762 : decode b_W_law 762 = .ok (.istore 6, 2) := by decide +kernel
theorem d_W_law_764 : decode b_W_law 764 = .ok (.aload_n 2, 1) := by decide +kernel
theorem d_W_law_765 : decode b_W_law 765 = .ok (.invokevirtual 81, 3) := by decide +kernel
theorem d_W_law_768 : decode b_W_law 768 = .ok (.iload 5, 2) := by decide +kernel
theorem d_W_law_770 : decode b_W_law 770 = .ok (.if_icmp .eq 5, 3) := by decide +kernel
theorem d_W_law_773 : decode b_W_law 773 = .ok (.iconst 0, 1) := by decide +kernel
theorem d_W_law_774 : decode b_W_law 774 = .ok (.ireturn, 1) := by decide +kernel
theorem d_W_law_775 : decode b_W_law 775 = .ok (.iload 5, 2) := by decide +kernel
theorem d_W_law_777 : decode b_W_law 777 = .ok (.ifCond .ne 15, 3) := by decide +kernel
theorem d_W_law_780 : decode b_W_law 780 = .ok (.aload_n 3, 1) := by decide +kernel
theorem d_W_law_781 : decode b_W_law 781 = .ok (.iconst 0, 1) := by decide +kernel
theorem d_W_law_782 : decode b_W_law 782 = .ok (.laload, 1) := by decide +kernel
theorem d_W_law_783 : decode b_W_law 783 = .ok (.iload 6, 2) := by decide +kernel
theorem d_W_law_785 : decode b_W_law 785 = .ok (.i2l, 1) := by decide +kernel
theorem d_W_law_786 : decode b_W_law 786 = .ok (.lcmp, 1) := by decide +kernel
theorem d_W_law_787 : decode b_W_law 787 = .ok (.ifCond .eq 5, 3) := by decide +kernel
theorem d_W_law_790 : decode b_W_law 790 = .ok (.iconst 0, 1) := by decide +kernel
theorem d_W_law_791 : decode b_W_law 791 = .ok (.ireturn, 1) := by decide +kernel
theorem d_W_law_792 : decode b_W_law 792 = .ok (.goto 567, 3) := by decide +kernel
theorem d_W_law_795 : decode b_W_law 795 = .ok (.aload_n 1, 1) := by decide +kernel
theorem d_W_law_796 : decode b_W_law 796 = .ok (.aload_n 0, 1) := by decide +kernel
theorem d_W_law_797 : decode b_W_law 797 = .ok (.iload 4, 2) := by decide +kernel
theorem d_W_law_799 : decode b_W_law 799 = .ok (.iconst 1, 1) := by decide +kernel
theorem d_W_law_800 : decode b_W_law 800 = .ok (.iadd, 1) := by decide +kernel
theorem d_W_law_801 : decode b_W_law 801 = .ok (.iaload, 1) := by decide +kernel
theorem d_W_law_802 : decode b_W_law 802 = .ok (.aload_n 0, 1) := by decide +kernel
theorem d_W_law_803 : decode b_W_law 803 = .ok (.iload 4, 2) := by decide +kernel
theorem d_W_law_805 : decode b_W_law 805 = .ok (.iconst 2, 1) := by decide +kernel
theorem d_W_law_806 : decode b_W_law 806 = .ok (.iadd, 1) := by decide +kernel
theorem d_W_law_807 : decode b_W_law 807 = .ok (.iaload, 1) := by decide +kernel
theorem d_W_law_808 : decode b_W_law 808 = .ok (.aload_n 0, 1) := by decide +kernel
theorem d_W_law_809 : decode b_W_law 809 = .ok (.iload 4, 2) := by decide +kernel
theorem d_W_law_811 : decode b_W_law 811 = .ok (.iconst 3, 1) := by decide +kernel
theorem d_W_law_812 : decode b_W_law 812 = .ok (.iadd, 1) := by decide +kernel
theorem d_W_law_813 : decode b_W_law 813 = .ok (.iaload, 1) := by decide +kernel
theorem d_W_law_814 : decode b_W_law 814 = .ok (.aload_n 0, 1) := by decide +kernel
theorem d_W_law_815 : decode b_W_law 815 = .ok (.iload 4, 2) := by decide +kernel
theorem d_W_law_817 : decode b_W_law 817 = .ok (.iconst 4, 1) := by decide +kernel
theorem d_W_law_818 : decode b_W_law 818 = .ok (.iadd, 1) := by decide +kernel
theorem d_W_law_819 : decode b_W_law 819 = .ok (.iaload, 1) := by decide +kernel
theorem d_W_law_820 : decode b_W_law 820 = .ok (.aload_n 3, 1) := by decide +kernel
theorem d_W_law_821 : decode b_W_law 821 = .ok (.invokestatic 119, 3) := by decide +kernel
theorem d_W_law_824 : decode b_W_law 824 = .ok (.istore 5, 2) := by decide +kernel
theorem d_W_law_826 : decode b_W_law 826 = .ok (.aload_n 2, 1) := by decide +kernel
theorem d_W_law_827 : decode b_W_law 827 = .ok (.aload_n 0, 1) := by decide +kernel
theorem d_W_law_828 : decode b_W_law 828 = .ok (.iload 4, 2) := by decide +kernel
theorem d_W_law_830 : decode b_W_law 830 = .ok (.iconst 1, 1) := by decide +kernel
theorem d_W_law_831 : decode b_W_law 831 = .ok (.iadd, 1) := by decide +kernel
theorem d_W_law_832 : decode b_W_law 832 = .ok (.iaload, 1) := by decide +kernel
theorem d_W_law_833 : decode b_W_law 833 = .ok (.aload_n 0, 1) := by decide +kernel
theorem d_W_law_834 : decode b_W_law 834 = .ok (.iload 4, 2) := by decide +kernel
theorem d_W_law_836 : decode b_W_law 836 = .ok (.iconst 2, 1) := by decide +kernel
theorem d_W_law_837 : decode b_W_law 837 = .ok (.iadd, 1) := by decide +kernel
theorem d_W_law_838 : decode b_W_law 838 = .ok (.iaload, 1) := by decide +kernel
theorem d_W_law_839 : decode b_W_law 839 = .ok (.aload_n 0, 1) := by decide +kernel
theorem d_W_law_840 : decode b_W_law 840 = .ok (.iload 4, 2) := by decide +kernel
theorem d_W_law_842 : decode b_W_law 842 = .ok (.iconst 3, 1) := by decide +kernel
theorem d_W_law_843 : decode b_W_law 843 = .ok (.iadd, 1) := by decide +kernel
theorem d_W_law_844 : decode b_W_law 844 = .ok (.iaload, 1) := by decide +kernel
theorem d_W_law_845 : decode b_W_law 845 = .ok (.aload_n 0, 1) := by decide +kernel
theorem d_W_law_846 : decode b_W_law 846 = .ok (.iload 4, 2) := by decide +kernel
theorem d_W_law_848 : decode b_W_law 848 = .ok (.iconst 4, 1) := by decide +kernel
theorem d_W_law_849 : decode b_W_law 849 = .ok (.iadd, 1) := by decide +kernel
theorem d_W_law_850 : decode b_W_law 850 = .ok (.iaload, 1) := by decide +kernel
theorem d_W_law_851 : decode b_W_law 851 = .ok (.invokevirtual 121, 3) := by decide +kernel
theorem d_W_law_854 : decode b_W_law 854 = .ok (.istore 6, 2) := by decide +kernel
theorem d_W_law_856 : decode b_W_law 856 = .ok (.aload_n 2, 1) := by decide +kernel
theorem d_W_law_857 : decode b_W_law 857 = .ok (.invokevirtual 81, 3) := by decide +kernel
theorem d_W_law_860 : decode b_W_law 860 = .ok (.iload 5, 2) := by decide +kernel
theorem d_W_law_862 : decode b_W_law 862 = .ok (.if_icmp .eq 5, 3) := by decide +kernel
theorem d_W_law_865 : decode b_W_law 865 = .ok (.iconst 0, 1) := by decide +kernel
theorem d_W_law_866 : decode b_W_law 866 = .ok (.ireturn, 1) := by decide +kernel
theorem d_W_law_867 : decode b_W_law 867 = .ok (.iload 5, 2) := by decide +kernel
theorem d_W_law_869 : decode b_W_law 869 = .ok (.ifCond .ne 15, 3) := by decide +kernel
theorem d_W_law_872 : decode b_W_law 872 = .ok (.aload_n 3, 1) := by decide +kernel
theorem d_W_law_873 : decode b_W_law 873 = .ok (.iconst 0, 1) := by decide +kernel
theorem d_W_law_874 : decode b_W_law 874 = .ok (.laload, 1) := by decide +kernel
theorem d_W_law_875 : decode b_W_law 875 = .ok (.iload 6, 2) := by decide +kernel
theorem d_W_law_877 : decode b_W_law 877 = .ok (.i2l, 1) := by decide +kernel
theorem d_W_law_878 : decode b_W_law 878 = .ok (.lcmp, 1) := by decide +kernel
theorem d_W_law_879 : decode b_W_law 879 = .ok (.ifCond .eq 5, 3) := by decide +kernel
theorem d_W_law_882 : decode b_W_law 882 = .ok (.iconst 0, 1) := by decide +kernel
theorem d_W_law_883 : decode b_W_law 883 = .ok (.ireturn, 1) := by decide +kernel
theorem d_W_law_884 : decode b_W_law 884 = .ok (.goto 475, 3) := by decide +kernel
theorem d_W_law_887 : decode b_W_law 887 = .ok (.aload_n 1, 1) := by decide +kernel
theorem d_W_law_888 : decode b_W_law 888 = .ok (.aload_n 0, 1) := by decide +kernel
theorem d_W_law_889 : decode b_W_law 889 = .ok (.iload 4, 2) := by decide +kernel
theorem d_W_law_891 : decode b_W_law 891 = .ok (.iconst 1, 1) := by decide +kernel
theorem d_W_law_892 : decode b_W_law 892 = .ok (.iadd, 1) := by decide +kernel
theorem d_W_law_893 : decode b_W_law 893 = .ok (.iaload, 1) := by decide +kernel
theorem d_W_law_894 : decode b_W_law 894 = .ok (.aload_n 0, 1) := by decide +kernel
theorem d_W_law_895 : decode b_W_law 895 = .ok (.iload 4, 2) := by decide +kernel
theorem d_W_law_897 : decode b_W_law 897 = .ok (.iconst 2, 1) := by decide +kernel
theorem d_W_law_898 : decode b_W_law 898 = .ok (.iadd, 1) := by decide +kernel
theorem d_W_law_899 : decode b_W_law 899 = .ok (.iaload, 1) := by decide +kernel
theorem d_W_law_900 : decode b_W_law 900 = .ok (.aload_n 0, 1) := by decide +kernel
theorem d_W_law_901 : decode b_W_law 901 = .ok (.iload 4, 2) := by decide +kernel
theorem d_W_law_903 : decode b_W_law 903 = .ok (.iconst 3, 1) := by decide +kernel
theorem d_W_law_904 : decode b_W_law 904 = .ok (.iadd, 1) := by decide +kernel
theorem d_W_law_905 : decode b_W_law 905 = .ok (.iaload, 1) := by decide +kernel
theorem d_W_law_906 : decode b_W_law 906 = .ok (.aload_n 0, 1) := by decide +kernel
theorem d_W_law_907 : decode b_W_law 907 = .ok (.iload 4, 2) := by decide +kernel
theorem d_W_law_909 : decode b_W_law 909 = .ok (.iconst 4, 1) := by decide +kernel
theorem d_W_law_910 : decode b_W_law 910 = .ok (.iadd, 1) := by decide +kernel
theorem d_W_law_911 : decode b_W_law 911 = .ok (.iaload, 1) := by decide +kernel
theorem d_W_law_912 : decode b_W_law 912 = .ok (.ifCond .eq 7, 3) := by decide +kernel
theorem d_W_law_915 : decode b_W_law 915 = .ok (.iconst 1, 1) := by decide +kernel
theorem d_W_law_916 : decode b_W_law 916 = .ok (.goto 4, 3) := by decide +kernel
theorem d_W_law_919 : decode b_W_law 919 = .ok (.iconst 0, 1) := by decide +kernel
theorem d_W_law_920 : decode b_W_law 920 = .ok (.aload_n 3, 1) := by decide +kernel
theorem d_W_law_921 : decode b_W_law 921 = .ok (.invokestatic 122, 3) := by decide +kernel
theorem d_W_law_924 : decode b_W_law 924 = .ok (.istore 5, 2) := by decide +kernel
theorem d_W_law_926 : decode b_W_law 926 = .ok (.aload_n 2, 1) := by decide +kernel
theorem d_W_law_927 : decode b_W_law 927 = .ok (.aload_n 0, 1) := by decide +kernel
theorem d_W_law_928 : decode b_W_law 928 = .ok (.iload 4, 2) := by decide +kernel
theorem d_W_law_930 : decode b_W_law 930 = .ok (.iconst 1, 1) := by decide +kernel
theorem d_W_law_931 : decode b_W_law 931 = .ok (.iadd, 1) := by decide +kernel
theorem d_W_law_932 : decode b_W_law 932 = .ok (.iaload, 1) := by decide +kernel
theorem d_W_law_933 : decode b_W_law 933 = .ok (.aload_n 0, 1) := by decide +kernel
theorem d_W_law_934 : decode b_W_law 934 = .ok (.iload 4, 2) := by decide +kernel
theorem d_W_law_936 : decode b_W_law 936 = .ok (.iconst 2, 1) := by decide +kernel
theorem d_W_law_937 : decode b_W_law 937 = .ok (.iadd, 1) := by decide +kernel
theorem d_W_law_938 : decode b_W_law 938 = .ok (.iaload, 1) := by decide +kernel
theorem d_W_law_939 : decode b_W_law 939 = .ok (.aload_n 0, 1) := by decide +kernel
theorem d_W_law_940 : decode b_W_law 940 = .ok (.iload 4, 2) := by decide +kernel
theorem d_W_law_942 : decode b_W_law 942 = .ok (.iconst 3, 1) := by decide +kernel
theorem d_W_law_943 : decode b_W_law 943 = .ok (.iadd, 1) := by decide +kernel
theorem d_W_law_944 : decode b_W_law 944 = .ok (.iaload, 1) := by decide +kernel
theorem d_W_law_945 : decode b_W_law 945 = .ok (.aload_n 0, 1) := by decide +kernel
theorem d_W_law_946 : decode b_W_law 946 = .ok (.iload 4, 2) := by decide +kernel
theorem d_W_law_948 : decode b_W_law 948 = .ok (.iconst 4, 1) := by decide +kernel
theorem d_W_law_949 : decode b_W_law 949 = .ok (.iadd, 1) := by decide +kernel
theorem d_W_law_950 : decode b_W_law 950 = .ok (.iaload, 1) := by decide +kernel
theorem d_W_law_951 : decode b_W_law 951 = .ok (.ifCond .eq 7, 3) := by decide +kernel
theorem d_W_law_954 : decode b_W_law 954 = .ok (.iconst 1, 1) := by decide +kernel
theorem d_W_law_955 : decode b_W_law 955 = .ok (.goto 4, 3) := by decide +kernel
theorem d_W_law_958 : decode b_W_law 958 = .ok (.iconst 0, 1) := by decide +kernel
theorem d_W_law_959 : decode b_W_law 959 = .ok (.invokevirtual 125, 3) := by decide +kernel
theorem d_W_law_962 : decode b_W_law 962 = .ok (.lstore 6, 2) := by decide +kernel
theorem d_W_law_964 : decode b_W_law 964 = .ok (.aload_n 2, 1) := by decide +kernel
theorem d_W_law_965 : decode b_W_law 965 = .ok (.invokevirtual 81, 3) := by decide +kernel
theorem d_W_law_968 : decode b_W_law 968 = .ok (.iload 5, 2) := by decide +kernel
theorem d_W_law_970 : decode b_W_law 970 = .ok (.if_icmp .eq 5, 3) := by decide +kernel
theorem d_W_law_973 : decode b_W_law 973 = .ok (.iconst 0, 1) := by decide +kernel
theorem d_W_law_974 : decode b_W_law 974 = .ok (.ireturn, 1) := by decide +kernel
theorem d_W_law_975 : decode b_W_law 975 = .ok (.iload 5, 2) := by decide +kernel
theorem d_W_law_977 : decode b_W_law 977 = .ok (.ifCond .ne 14, 3) := by decide +kernel
theorem d_W_law_980 : decode b_W_law 980 = .ok (.aload_n 3, 1) := by decide +kernel
theorem d_W_law_981 : decode b_W_law 981 = .ok (.iconst 0, 1) := by decide +kernel
theorem d_W_law_982 : decode b_W_law 982 = .ok (.laload, 1) := by decide +kernel
theorem d_W_law_983 : decode b_W_law 983 = .ok (.lload 6, 2) := by decide +kernel
theorem d_W_law_985 : decode b_W_law 985 = .ok (.lcmp, 1) := by decide +kernel
theorem d_W_law_986 : decode b_W_law 986 = .ok (.ifCond .eq 5, 3) := by decide +kernel
theorem d_W_law_989 : decode b_W_law 989 = .ok (.iconst 0, 1) := by decide +kernel
theorem d_W_law_990 : decode b_W_law 990 = .ok (.ireturn, 1) := by decide +kernel
theorem d_W_law_991 : decode b_W_law 991 = .ok (.goto 368, 3) := by decide +kernel
theorem d_W_law_994 : decode b_W_law 994 = .ok (.aload_n 1, 1) := by decide +kernel
theorem d_W_law_995 : decode b_W_law 995 = .ok (.aload_n 0, 1) := by decide +kernel
theorem d_W_law_996 : decode b_W_law 996 = .ok (.iload 4, 2) := by decide +kernel
theorem d_W_law_998 : decode b_W_law 998 = .ok (.iconst 1, 1) := by decide +kernel
theorem d_W_law_999 : decode b_W_law 999 = .ok (.iadd, 1) := by decide +kernel
theorem d_W_law_1000 : decode b_W_law 1000 = .ok (.iaload, 1) := by decide +kernel
theorem d_W_law_1001 : decode b_W_law 1001 = .ok (.aload_n 0, 1) := by decide +kernel
theorem d_W_law_1002 : decode b_W_law 1002 = .ok (.iload 4, 2) := by decide +kernel
theorem d_W_law_1004 : decode b_W_law 1004 = .ok (.iconst 2, 1) := by decide +kernel
theorem d_W_law_1005 : decode b_W_law 1005 = .ok (.iadd, 1) := by decide +kernel
theorem d_W_law_1006 : decode b_W_law 1006 = .ok (.iaload, 1) := by decide +kernel
theorem d_W_law_1007 : decode b_W_law 1007 = .ok (.aload_n 0, 1) := by decide +kernel
theorem d_W_law_1008 : decode b_W_law 1008 = .ok (.iload 4, 2) := by decide +kernel
theorem d_W_law_1010 : decode b_W_law 1010 = .ok (.iconst 3, 1) := by decide +kernel
theorem d_W_law_1011 : decode b_W_law 1011 = .ok (.iadd, 1) := by decide +kernel
theorem d_W_law_1012 : decode b_W_law 1012 = .ok (.iaload, 1) := by decide +kernel
theorem d_W_law_1013 : decode b_W_law 1013 = .ok (.aload_n 3, 1) := by decide +kernel
theorem d_W_law_1014 : decode b_W_law 1014 = .ok (.invokestatic 126, 3) := by decide +kernel
theorem d_W_law_1017 : decode b_W_law 1017 = .ok (.istore 5, 2) := by decide +kernel
theorem d_W_law_1019 : decode b_W_law 1019 = .ok (.aload_n 2, 1) := by decide +kernel
theorem d_W_law_1020 : decode b_W_law 1020 = .ok (.aload_n 0, 1) := by decide +kernel
theorem d_W_law_1021 : decode b_W_law 1021 = .ok (.iload 4, 2) := by decide +kernel
theorem d_W_law_1023 : decode b_W_law 1023 = .ok (.iconst 1, 1) := by decide +kernel
theorem d_W_law_1024 : decode b_W_law 1024 = .ok (.iadd, 1) := by decide +kernel
theorem d_W_law_1025 : decode b_W_law 1025 = .ok (.iaload, 1) := by decide +kernel
theorem d_W_law_1026 : decode b_W_law 1026 = .ok (.aload_n 0, 1) := by decide +kernel
theorem d_W_law_1027 : decode b_W_law 1027 = .ok (.iload 4, 2) := by decide +kernel
theorem d_W_law_1029 : decode b_W_law 1029 = .ok (.iconst 2, 1) := by decide +kernel
theorem d_W_law_1030 : decode b_W_law 1030 = .ok (.iadd, 1) := by decide +kernel
theorem d_W_law_1031 : decode b_W_law 1031 = .ok (.iaload, 1) := by decide +kernel
theorem d_W_law_1032 : decode b_W_law 1032 = .ok (.aload_n 0, 1) := by decide +kernel
theorem d_W_law_1033 : decode b_W_law 1033 = .ok (.iload 4, 2) := by decide +kernel
theorem d_W_law_1035 : decode b_W_law 1035 = .ok (.iconst 3, 1) := by decide +kernel
theorem d_W_law_1036 : decode b_W_law 1036 = .ok (.iadd, 1) := by decide +kernel
theorem d_W_law_1037 : decode b_W_law 1037 = .ok (.iaload, 1) := by decide +kernel
theorem d_W_law_1038 : decode b_W_law 1038 = .ok (.invokevirtual 129, 3) := by decide +kernel
theorem d_W_law_1041 : decode b_W_law 1041 = .ok (.lstore 6, 2) := by decide +kernel
theorem d_W_law_1043 : decode b_W_law 1043 = .ok (.aload_n 2, 1) := by decide +kernel
theorem d_W_law_1044 : decode b_W_law 1044 = .ok (.invokevirtual 81, 3) := by decide +kernel
theorem d_W_law_1047 : decode b_W_law 1047 = .ok (.iload 5, 2) := by decide +kernel
theorem d_W_law_1049 : decode b_W_law 1049 = .ok (.if_icmp .eq 5, 3) := by decide +kernel
theorem d_W_law_1052 : decode b_W_law 1052 = .ok (.iconst 0, 1) := by decide +kernel
theorem d_W_law_1053 : decode b_W_law 1053 = .ok (.ireturn, 1) := by decide +kernel
theorem d_W_law_1054 : decode b_W_law 1054 = .ok (.iload 5, 2) := by decide +kernel
theorem d_W_law_1056 : decode b_W_law 1056 = .ok (.ifCond .ne 14, 3) := by decide +kernel
theorem d_W_law_1059 : decode b_W_law 1059 = .ok (.aload_n 3, 1) := by decide +kernel
theorem d_W_law_1060 : decode b_W_law 1060 = .ok (.iconst 0, 1) := by decide +kernel
theorem d_W_law_1061 : decode b_W_law 1061 = .ok (.laload, 1) := by decide +kernel
theorem d_W_law_1062 : decode b_W_law 1062 = .ok (.lload 6, 2) := by decide +kernel
theorem d_W_law_1064 : decode b_W_law 1064 = .ok (.lcmp, 1) := by decide +kernel
theorem d_W_law_1065 : decode b_W_law 1065 = .ok (.ifCond .eq 5, 3) := by decide +kernel
theorem d_W_law_1068 : decode b_W_law 1068 = .ok (.iconst 0, 1) := by decide +kernel
theorem d_W_law_1069 : decode b_W_law 1069 = .ok (.ireturn, 1) := by decide +kernel
theorem d_W_law_1070 : decode b_W_law 1070 = .ok (.goto 289, 3) := by decide +kernel
theorem d_W_law_1073 : decode b_W_law 1073 = .ok (.aload_n 1, 1) := by decide +kernel
theorem d_W_law_1074 : decode b_W_law 1074 = .ok (.aload_n 0, 1) := by decide +kernel
theorem d_W_law_1075 : decode b_W_law 1075 = .ok (.iload 4, 2) := by decide +kernel
theorem d_W_law_1077 : decode b_W_law 1077 = .ok (.iconst 1, 1) := by decide +kernel
theorem d_W_law_1078 : decode b_W_law 1078 = .ok (.iadd, 1) := by decide +kernel
theorem d_W_law_1079 : decode b_W_law 1079 = .ok (.iaload, 1) := by decide +kernel
theorem d_W_law_1080 : decode b_W_law 1080 = .ok (.aload_n 0, 1) := by decide +kernel
theorem d_W_law_1081 : decode b_W_law 1081 = .ok (.iload 4, 2) := by decide +kernel
theorem d_W_law_1083 : decode b_W_law 1083 = .ok (.iconst 2, 1) := by decide +kernel
theorem d_W_law_1084 : decode b_W_law 1084 = .ok (.iadd, 1) := by decide +kernel
theorem d_W_law_1085 : decode b_W_law 1085 = .ok (.iaload, 1) := by decide +kernel
theorem d_W_law_1086 : decode b_W_law 1086 = .ok (.aload_n 0, 1) := by decide +kernel
theorem d_W_law_1087 : decode b_W_law 1087 = .ok (.iload 4, 2) := by decide +kernel
theorem d_W_law_1089 : decode b_W_law 1089 = .ok (.iconst 3, 1) := by decide +kernel
theorem d_W_law_1090 : decode b_W_law 1090 = .ok (.iadd, 1) := by decide +kernel
theorem d_W_law_1091 : decode b_W_law 1091 = .ok (.iaload, 1) := by decide +kernel
theorem d_W_law_1092 : decode b_W_law 1092 = .ok (.i2l, 1) := by decide +kernel
theorem d_W_law_1093 : decode b_W_law 1093 = .ok (.bipush 32, 2) := by decide +kernel
theorem d_W_law_1095 : decode b_W_law 1095 = .ok (.lshl, 1) := by decide +kernel
theorem d_W_law_1096 : decode b_W_law 1096 = .ok (.aload_n 0, 1) := by decide +kernel
theorem d_W_law_1097 : decode b_W_law 1097 = .ok (.iload 4, 2) := by decide +kernel
theorem d_W_law_1099 : decode b_W_law 1099 = .ok (.iconst 4, 1) := by decide +kernel
theorem d_W_law_1100 : decode b_W_law 1100 = .ok (.iadd, 1) := by decide +kernel
theorem d_W_law_1101 : decode b_W_law 1101 = .ok (.iaload, 1) := by decide +kernel
theorem d_W_law_1102 : decode b_W_law 1102 = .ok (.i2l, 1) := by decide +kernel
theorem d_W_law_1103 : decode b_W_law 1103 = .ok (.ldc2_w 130, 3) := by decide +kernel
theorem d_W_law_1106 : decode b_W_law 1106 = .ok (.land, 1) := by decide +kernel
theorem d_W_law_1107 : decode b_W_law 1107 = .ok (.lor, 1) := by decide +kernel
theorem d_W_law_1108 : decode b_W_law 1108 = .ok (.aload_n 0, 1) := by decide +kernel
theorem d_W_law_1109 : decode b_W_law 1109 = .ok (.iload 4, 2) := by decide +kernel
theorem d_W_law_1111 : decode b_W_law 1111 = .ok (.iconst 5, 1) := by decide +kernel
theorem d_W_law_1112 : decode b_W_law 1112 = .ok (.iadd, 1) := by decide +kernel
theorem d_W_law_1113 : decode b_W_law 1113 = .ok (.iaload, 1) := by decide +kernel
theorem d_W_law_1114 : decode b_W_law 1114 = .ok (.aload_n 3, 1) := by decide +kernel
theorem d_W_law_1115 : decode b_W_law 1115 = .ok (.invokestatic 132, 3) := by decide +kernel
theorem d_W_law_1118 : decode b_W_law 1118 = .ok (.istore 5, 2) := by decide +kernel
theorem d_W_law_1120 : decode b_W_law 1120 = .ok (.aload_n 2, 1) := by decide +kernel
theorem d_W_law_1121 : decode b_W_law 1121 = .ok (.aload_n 0, 1) := by decide +kernel
theorem d_W_law_1122 : decode b_W_law 1122 = .ok (.iload 4, 2) := by decide +kernel
theorem d_W_law_1124 : decode b_W_law 1124 = .ok (.iconst 1, 1) := by decide +kernel
theorem d_W_law_1125 : decode b_W_law 1125 = .ok (.iadd, 1) := by decide +kernel
theorem d_W_law_1126 : decode b_W_law 1126 = .ok (.iaload, 1) := by decide +kernel
theorem d_W_law_1127 : decode b_W_law 1127 = .ok (.aload_n 0, 1) := by decide +kernel
theorem d_W_law_1128 : decode b_W_law 1128 = .ok (.iload 4, 2) := by decide +kernel
theorem d_W_law_1130 : decode b_W_law 1130 = .ok (.iconst 2, 1) := by decide +kernel
theorem d_W_law_1131 : decode b_W_law 1131 = .ok (.iadd, 1) := by decide +kernel
theorem d_W_law_1132 : decode b_W_law 1132 = .ok (.iaload, 1) := by decide +kernel
theorem d_W_law_1133 : decode b_W_law 1133 = .ok (.aload_n 0, 1) := by decide +kernel
theorem d_W_law_1134 : decode b_W_law 1134 = .ok (.iload 4, 2) := by decide +kernel
theorem d_W_law_1136 : decode b_W_law 1136 = .ok (.iconst 3, 1) := by decide +kernel
theorem d_W_law_1137 : decode b_W_law 1137 = .ok (.iadd, 1) := by decide +kernel
theorem d_W_law_1138 : decode b_W_law 1138 = .ok (.iaload, 1) := by decide +kernel
theorem d_W_law_1139 : decode b_W_law 1139 = .ok (.i2l, 1) := by decide +kernel
theorem d_W_law_1140 : decode b_W_law 1140 = .ok (.bipush 32, 2) := by decide +kernel
theorem d_W_law_1142 : decode b_W_law 1142 = .ok (.lshl, 1) := by decide +kernel
theorem d_W_law_1143 : decode b_W_law 1143 = .ok (.aload_n 0, 1) := by decide +kernel
theorem d_W_law_1144 : decode b_W_law 1144 = .ok (.iload 4, 2) := by decide +kernel
theorem d_W_law_1146 : decode b_W_law 1146 = .ok (.iconst 4, 1) := by decide +kernel
theorem d_W_law_1147 : decode b_W_law 1147 = .ok (.iadd, 1) := by decide +kernel
theorem d_W_law_1148 : decode b_W_law 1148 = .ok (.iaload, 1) := by decide +kernel
theorem d_W_law_1149 : decode b_W_law 1149 = .ok (.i2l, 1) := by decide +kernel
theorem d_W_law_1150 : decode b_W_law 1150 = .ok (.ldc2_w 130, 3) := by decide +kernel
theorem d_W_law_1153 : decode b_W_law 1153 = .ok (.land, 1) := by decide +kernel
theorem d_W_law_1154 : decode b_W_law 1154 = .ok (.lor, 1) := by decide +kernel
theorem d_W_law_1155 : decode b_W_law 1155 = .ok (.aload_n 0, 1) := by decide +kernel
theorem d_W_law_1156 : decode b_W_law 1156 = .ok (.iload 4, 2) := by decide +kernel
theorem d_W_law_1158 : decode b_W_law 1158 = .ok (.iconst 5, 1) := by decide +kernel
theorem d_W_law_1159 : decode b_W_law 1159 = .ok (.iadd, 1) := by decide +kernel
theorem d_W_law_1160 : decode b_W_law 1160 = .ok (.iaload, 1) := by decide +kernel
theorem d_W_law_1161 : decode b_W_law 1161 = .ok (.invokevirtual 135, 3) := by decide +kernel
theorem d_W_law_1164 : decode b_W_law 1164 = .ok (.istore 6, 2) := by decide +kernel
theorem d_W_law_1166 : decode b_W_law 1166 = .ok (.aload_n 2, 1) := by decide +kernel
theorem d_W_law_1167 : decode b_W_law 1167 = .ok (.invokevirtual 81, 3) := by decide +kernel
theorem d_W_law_1170 : decode b_W_law 1170 = .ok (.iload 5, 2) := by decide +kernel
theorem d_W_law_1172 : decode b_W_law 1172 = .ok (.if_icmp .eq 5, 3) := by decide +kernel
theorem d_W_law_1175 : decode b_W_law 1175 = .ok (.iconst 0, 1) := by decide +kernel
theorem d_W_law_1176 : decode b_W_law 1176 = .ok (.ireturn, 1) := by decide +kernel
theorem d_W_law_1177 : decode b_W_law 1177 = .ok (.iload 5, 2) := by decide +kernel
theorem d_W_law_1179 : decode b_W_law 1179 = .ok (.ifCond .ne 15, 3) := by decide +kernel
theorem d_W_law_1182 : decode b_W_law 1182 = .ok (.aload_n 3, 1) := by decide +kernel
theorem d_W_law_1183 : decode b_W_law 1183 = .ok (.iconst 0, 1) := by decide +kernel
theorem d_W_law_1184 : decode b_W_law 1184 = .ok (.laload, 1) := by decide +kernel
theorem d_W_law_1185 : decode b_W_law 1185 = .ok (.iload 6, 2) := by decide +kernel
theorem d_W_law_1187 : decode b_W_law 1187 = .ok (.i2l, 1) := by decide +kernel
theorem d_W_law_1188 : decode b_W_law 1188 = .ok (.lcmp, 1) := by decide +kernel
theorem d_W_law_1189 : decode b_W_law 1189 = .ok (.ifCond .eq 5, 3) := by decide +kernel
theorem d_W_law_1192 : decode b_W_law 1192 = .ok (.iconst 0, 1) := by decide +kernel
theorem d_W_law_1193 : decode b_W_law 1193 = .ok (.ireturn, 1) := by decide +kernel
theorem d_W_law_1194 : decode b_W_law 1194 = .ok (.goto 165, 3) := by decide +kernel
theorem d_W_law_1197 : decode b_W_law 1197 = .ok (.aload_n 1, 1) := by decide +kernel
theorem d_W_law_1198 : decode b_W_law 1198 = .ok (.aload_n 0, 1) := by decide +kernel
theorem d_W_law_1199 : decode b_W_law 1199 = .ok (.iload 4, 2) := by decide +kernel
theorem d_W_law_1201 : decode b_W_law 1201 = .ok (.iconst 1, 1) := by decide +kernel
theorem d_W_law_1202 : decode b_W_law 1202 = .ok (.iadd, 1) := by decide +kernel
theorem d_W_law_1203 : decode b_W_law 1203 = .ok (.iaload, 1) := by decide +kernel
theorem d_W_law_1204 : decode b_W_law 1204 = .ok (.i2l, 1) := by decide +kernel
theorem d_W_law_1205 : decode b_W_law 1205 = .ok (.bipush 32, 2) := by decide +kernel
theorem d_W_law_1207 : decode b_W_law 1207 = .ok (.lshl, 1) := by decide +kernel
theorem d_W_law_1208 : decode b_W_law 1208 = .ok (.aload_n 0, 1) := by decide +kernel
theorem d_W_law_1209 : decode b_W_law 1209 = .ok (.iload 4, 2) := by decide +kernel
theorem d_W_law_1211 : decode b_W_law 1211 = .ok (.iconst 2, 1) := by decide +kernel
theorem d_W_law_1212 : decode b_W_law 1212 = .ok (.iadd, 1) := by decide +kernel
theorem d_W_law_1213 : decode b_W_law 1213 = .ok (.iaload, 1) := by decide +kernel
theorem d_W_law_1214 : decode b_W_law 1214 = .ok (.i2l, 1) := by decide +kernel
theorem d_W_law_1215 : decode b_W_law 1215 = .ok (.ldc2_w 130, 3) := by decide +kernel
theorem d_W_law_1218 : decode b_W_law 1218 = .ok (.land, 1) := by decide +kernel
theorem d_W_law_1219 : decode b_W_law 1219 = .ok (.lor, 1) := by decide +kernel
theorem d_W_law_1220 : decode b_W_law 1220 = .ok (.invokevirtual 136, 3) := by decide +kernel
theorem d_W_law_1223 : decode b_W_law 1223 = .ok (.aload_n 2, 1) := by decide +kernel
theorem d_W_law_1224 : decode b_W_law 1224 = .ok (.aload_n 0, 1) := by decide +kernel
theorem d_W_law_1225 : decode b_W_law 1225 = .ok (.iload 4, 2) := by decide +kernel
theorem d_W_law_1227 : decode b_W_law 1227 = .ok (.iconst 1, 1) := by decide +kernel
theorem d_W_law_1228 : decode b_W_law 1228 = .ok (.iadd, 1) := by decide +kernel
theorem d_W_law_1229 : decode b_W_law 1229 = .ok (.iaload, 1) := by decide +kernel
theorem d_W_law_1230 : decode b_W_law 1230 = .ok (.i2l, 1) := by decide +kernel
theorem d_W_law_1231 : decode b_W_law 1231 = .ok (.bipush 32, 2) := by decide +kernel
theorem d_W_law_1233 : decode b_W_law 1233 = .ok (.lshl, 1) := by decide +kernel
theorem d_W_law_1234 : decode b_W_law 1234 = .ok (.aload_n 0, 1) := by decide +kernel
theorem d_W_law_1235 : decode b_W_law 1235 = .ok (.iload 4, 2) := by decide +kernel
theorem d_W_law_1237 : decode b_W_law 1237 = .ok (.iconst 2, 1) := by decide +kernel
theorem d_W_law_1238 : decode b_W_law 1238 = .ok (.iadd, 1) := by decide +kernel
theorem d_W_law_1239 : decode b_W_law 1239 = .ok (.iaload, 1) := by decide +kernel
theorem d_W_law_1240 : decode b_W_law 1240 = .ok (.i2l, 1) := by decide +kernel
theorem d_W_law_1241 : decode b_W_law 1241 = .ok (.ldc2_w 130, 3) := by decide +kernel
theorem d_W_law_1244 : decode b_W_law 1244 = .ok (.land, 1) := by decide +kernel
theorem d_W_law_1245 : decode b_W_law 1245 = .ok (.lor, 1) := by decide +kernel
theorem d_W_law_1246 : decode b_W_law 1246 = .ok (.invokevirtual 140, 3) := by decide +kernel
theorem d_W_law_1249 : decode b_W_law 1249 = .ok (.if_icmp .eq 110, 3) := by decide +kernel
theorem d_W_law_1252 : decode b_W_law 1252 = .ok (.iconst 0, 1) := by decide +kernel
theorem d_W_law_1253 : decode b_W_law 1253 = .ok (.ireturn, 1) := by decide +kernel
theorem d_W_law_1254 : decode b_W_law 1254 = .ok (.aload_n 1, 1) := by decide +kernel
theorem d_W_law_1255 : decode b_W_law 1255 = .ok (.invokevirtual 141, 3) := by decide +kernel
theorem d_W_law_1258 : decode b_W_law 1258 = .ok (.aload_n 2, 1) := by decide +kernel
theorem d_W_law_1259 : decode b_W_law 1259 = .ok (.invokevirtual 144, 3) := by decide +kernel
theorem d_W_law_1262 : decode b_W_law 1262 = .ok (.if_icmp .eq 97, 3) := by decide +kernel
theorem d_W_law_1265 : decode b_W_law 1265 = .ok (.iconst 0, 1) := by decide +kernel
theorem d_W_law_1266 : decode b_W_law 1266 = .ok (.ireturn, 1) := by decide +kernel
theorem d_W_law_1267 : decode b_W_law 1267 = .ok (.aload_n 1, 1) := by decide +kernel
theorem d_W_law_1268 : decode b_W_law 1268 = .ok (.aload_n 0, 1) := by decide +kernel
theorem d_W_law_1269 : decode b_W_law 1269 = .ok (.iload 4, 2) := by decide +kernel
theorem d_W_law_1271 : decode b_W_law 1271 = .ok (.iconst 1, 1) := by decide +kernel
theorem d_W_law_1272 : decode b_W_law 1272 = .ok (.iadd, 1) := by decide +kernel
theorem d_W_law_1273 : decode b_W_law 1273 = .ok (.iaload, 1) := by decide +kernel
theorem d_W_law_1274 : decode b_W_law 1274 = .ok (.aload_n 3, 1) := by decide +kernel
theorem d_W_law_1275 : decode b_W_law 1275 = .ok (.invokestatic 145, 3) := by decide +kernel
theorem d_W_law_1278 : decode b_W_law 1278 = .ok (.istore 5, 2) := by decide +kernel
theorem d_W_law_1280 : decode b_W_law 1280 = .ok (.aload_n 2, 1) := by decide +kernel
theorem d_W_law_1281 : decode b_W_law 1281 = .ok (.aload_n 0, 1) := by decide +kernel
theorem d_W_law_1282 : decode b_W_law 1282 = .ok (.iload 4, 2) := by decide +kernel
theorem d_W_law_1284 : decode b_W_law 1284 = .ok (.iconst 1, 1) := by decide +kernel
theorem d_W_law_1285 : decode b_W_law 1285 = .ok (.iadd, 1) := by decide +kernel
theorem d_W_law_1286 : decode b_W_law 1286 = .ok (.iaload, 1) := by decide +kernel
theorem d_W_law_1287 : decode b_W_law 1287 = .ok (.invokevirtual 147, 3) := by decide +kernel
theorem d_W_law_1290 : decode b_W_law 1290 = .ok (.istore 6, 2) := by decide +kernel
theorem d_W_law_1292 : decode b_W_law 1292 = .ok (.aload_n 2, 1) := by decide +kernel
theorem d_W_law_1293 : decode b_W_law 1293 = .ok (.invokevirtual 81, 3) := by decide +kernel
theorem d_W_law_1296 : decode b_W_law 1296 = .ok (.iload 5, 2) := by decide +kernel
theorem d_W_law_1298 : decode b_W_law 1298 = .ok (.if_icmp .eq 5, 3) := by decide +kernel
theorem d_W_law_1301 : decode b_W_law 1301 = .ok (.iconst 0, 1) := by decide +kernel
theorem d_W_law_1302 : decode b_W_law 1302 = .ok (.ireturn, 1) := by decide +kernel
theorem d_W_law_1303 : decode b_W_law 1303 = .ok (.iload 5, 2) := by decide +kernel
theorem d_W_law_1305 : decode b_W_law 1305 = .ok (.ifCond .ne 15, 3) := by decide +kernel
theorem d_W_law_1308 : decode b_W_law 1308 = .ok (.aload_n 3, 1) := by decide +kernel
theorem d_W_law_1309 : decode b_W_law 1309 = .ok (.iconst 0, 1) := by decide +kernel
theorem d_W_law_1310 : decode b_W_law 1310 = .ok (.laload, 1) := by decide +kernel
theorem d_W_law_1311 : decode b_W_law 1311 = .ok (.iload 6, 2) := by decide +kernel
theorem d_W_law_1313 : decode b_W_law 1313 = .ok (.i2l, 1) := by decide +kernel
theorem d_W_law_1314 : decode b_W_law 1314 = .ok (.lcmp, 1) := by decide +kernel
theorem d_W_law_1315 : decode b_W_law 1315 = .ok (.ifCond .eq 5, 3) := by decide +kernel
theorem d_W_law_1318 : decode b_W_law 1318 = .ok (.iconst 0, 1) := by decide +kernel
theorem d_W_law_1319 : decode b_W_law 1319 = .ok (.ireturn, 1) := by decide +kernel
theorem d_W_law_1320 : decode b_W_law 1320 = .ok (.goto 39, 3) := by decide +kernel
theorem d_W_law_1323 : decode b_W_law 1323 = .ok (.aload_n 1, 1) := by decide +kernel
theorem d_W_law_1324 : decode b_W_law 1324 = .ok (.aload_n 0, 1) := by decide +kernel
theorem d_W_law_1325 : decode b_W_law 1325 = .ok (.iload 4, 2) := by decide +kernel
theorem d_W_law_1327 : decode b_W_law 1327 = .ok (.iconst 1, 1) := by decide +kernel
theorem d_W_law_1328 : decode b_W_law 1328 = .ok (.iadd, 1) := by decide +kernel
theorem d_W_law_1329 : decode b_W_law 1329 = .ok (.iaload, 1) := by decide +kernel
theorem d_W_law_1330 : decode b_W_law 1330 = .ok (.invokevirtual 148, 3) := by decide +kernel
theorem d_W_law_1333 : decode b_W_law 1333 = .ok (.aload_n 2, 1) := by decide +kernel
theorem d_W_law_1334 : decode b_W_law 1334 = .ok (.aload_n 0, 1) := by decide +kernel
theorem d_W_law_1335 : decode b_W_law 1335 = .ok (.iload 4, 2) := by decide +kernel
theorem d_W_law_1337 : decode b_W_law 1337 = .ok (.iconst 1, 1) := by decide +kernel
theorem d_W_law_1338 : decode b_W_law 1338 = .ok (.iadd, 1) := by decide +kernel
theorem d_W_law_1339 : decode b_W_law 1339 = .ok (.iaload, 1) := by decide +kernel
theorem d_W_law_1340 : decode b_W_law 1340 = .ok (.invokevirtual 151, 3) := by decide +kernel
theorem d_W_law_1343 : decode b_W_law 1343 = .ok (.if_icmp .eq 16, 3) := by decide +kernel
theorem d_W_law_1346 : decode b_W_law 1346 = .ok (.iconst 0, 1) := by decide +kernel
theorem d_W_law_1347 : decode b_W_law 1347 = .ok (.ireturn, 1) := by decide +kernel
theorem d_W_law_1348 : decode b_W_law 1348 = .ok (.aload_n 1, 1) := by decide +kernel
theorem d_W_law_1349 : decode b_W_law 1349 = .ok (.invokevirtual 152, 3) := by decide +kernel
theorem d_W_law_1352 : decode b_W_law 1352 = .ok (.aload_n 2, 1) := by decide +kernel
theorem d_W_law_1353 : decode b_W_law 1353 = .ok (.invokevirtual 155, 3) := by decide +kernel
theorem d_W_law_1356 : decode b_W_law 1356 = .ok (.goto 3, 3) := by decide +kernel
theorem d_W_law_1359 : decode b_W_law 1359 = .ok (.iinc 4 6, 3) := by decide +kernel
theorem d_W_law_1362 : decode b_W_law 1362 = .ok (.goto (-1339), 3) := by decide +kernel
theorem d_W_law_1365 : decode b_W_law 1365 = .ok (.iconst 1, 1) := by decide +kernel
theorem d_W_law_1366 : decode b_W_law 1366 = .ok (.ireturn, 1) := by decide +kernel
theorem d_J_compare_0 : decode b_J_compare 0 = .ok (.lload_n 0, 1) := by decide +kernel
theorem d_J_compare_1 : decode b_J_compare 1 = .ok (.lload_n 2, 1) := by decide +kernel
theorem d_J_compare_2 : decode b_J_compare 2 = .ok (.lcmp, 1) := by decide +kernel
theorem d_J_compare_3 : decode b_J_compare 3 = .ok (.ifCond .ge 7, 3) := by decide +kernel
theorem d_J_compare_6 : decode b_J_compare 6 = .ok (.iconst (-1), 1) := by decide +kernel
theorem d_J_compare_7 : decode b_J_compare 7 = .ok (.goto 14, 3) := by decide +kernel
theorem d_J_compare_10 : decode b_J_compare 10 = .ok (.lload_n 0, 1) := by decide +kernel
theorem d_J_compare_11 : decode b_J_compare 11 = .ok (.lload_n 2, 1) := by decide +kernel
theorem d_J_compare_12 : decode b_J_compare 12 = .ok (.lcmp, 1) := by decide +kernel
theorem d_J_compare_13 : decode b_J_compare 13 = .ok (.ifCond .ne 7, 3) := by decide +kernel
theorem d_J_compare_16 : decode b_J_compare 16 = .ok (.iconst 0, 1) := by decide +kernel
theorem d_J_compare_17 : decode b_J_compare 17 = .ok (.goto 4, 3) := by decide +kernel
theorem d_J_compare_20 : decode b_J_compare 20 = .ok (.iconst 1, 1) := by decide +kernel
theorem d_J_compare_21 : decode b_J_compare 21 = .ok (.ireturn, 1) := by decide +kernel
theorem d_A_min_I_0 : decode b_A_min_I 0 = .ok (.iload_n 0, 1) := by decide +kernel
theorem d_A_min_I_1 : decode b_A_min_I 1 = .ok (.iload_n 1, 1) := by decide +kernel
theorem d_A_min_I_2 : decode b_A_min_I 2 = .ok (.if_icmp .gt 7, 3) := by decide +kernel
theorem d_A_min_I_5 : decode b_A_min_I 5 = .ok (.iload_n 0, 1) := by decide +kernel
theorem d_A_min_I_6 : decode b_A_min_I 6 = .ok (.goto 4, 3) := by decide +kernel
theorem d_A_min_I_9 : decode b_A_min_I 9 = .ok (.iload_n 1, 1) := by decide +kernel
theorem d_A_min_I_10 : decode b_A_min_I 10 = .ok (.ireturn, 1) := by decide +kernel
theorem d_A_min_J_0 : decode b_A_min_J 0 = .ok (.lload_n 0, 1) := by decide +kernel
theorem d_A_min_J_1 : decode b_A_min_J 1 = .ok (.lload_n 2, 1) := by decide +kernel
theorem d_A_min_J_2 : decode b_A_min_J 2 = .ok (.lcmp, 1) := by decide +kernel
theorem d_A_min_J_3 : decode b_A_min_J 3 = .ok (.ifCond .gt 7, 3) := by decide +kernel
theorem d_A_min_J_6 : decode b_A_min_J 6 = .ok (.lload_n 0, 1) := by decide +kernel
theorem d_A_min_J_7 : decode b_A_min_J 7 = .ok (.goto 4, 3) := by decide +kernel
theorem d_A_min_J_10 : decode b_A_min_J 10 = .ok (.lload_n 2, 1) := by decide +kernel
theorem d_A_min_J_11 : decode b_A_min_J 11 = .ok (.lreturn, 1) := by decide +kernel
