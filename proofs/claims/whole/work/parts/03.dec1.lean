/-! Decoded instructions, by program (wip/gen/names.py). -/
theorem d_X_init_0 : decode b_X_init 0 = .ok (.aload_n 0, 1) := by decide +kernel
theorem d_X_init_1 : decode b_X_init 1 = .ok (.invokespecial 1, 3) := by decide +kernel
theorem d_X_init_4 : decode b_X_init 4 = .ok (.aload_n 0, 1) := by decide +kernel
theorem d_X_init_5 : decode b_X_init 5 = .ok (.new 7, 3) := by decide +kernel
theorem d_X_init_8 : decode b_X_init 8 = .ok (.dup, 1) := by decide +kernel
theorem d_X_init_9 : decode b_X_init 9 = .ok (.invokespecial 9, 3) := by decide +kernel
theorem d_X_init_12 : decode b_X_init 12 = .ok (.putfield 10, 3) := by decide +kernel
theorem d_X_init_15 : decode b_X_init 15 = .ok (.aload_n 0, 1) := by decide +kernel
theorem d_X_init_16 : decode b_X_init 16 = .ok (.new 16, 3) := by decide +kernel
theorem d_X_init_19 : decode b_X_init 19 = .ok (.dup, 1) := by decide +kernel
theorem d_X_init_20 : decode b_X_init 20 = .ok (.invokespecial 18, 3) := by decide +kernel
theorem d_X_init_23 : decode b_X_init 23 = .ok (.putfield 19, 3) := by decide +kernel
theorem d_X_init_26 : decode b_X_init 26 = .ok (.aload_n 0, 1) := by decide +kernel
theorem d_X_init_27 : decode b_X_init 27 = .ok (.bipush 16, 2) := by decide +kernel
theorem d_X_init_29 : decode b_X_init 29 = .ok (.anewarray 23, 3) := by decide +kernel
theorem d_X_init_32 : decode b_X_init 32 = .ok (.putfield 25, 3) := by decide +kernel
theorem d_X_init_35 : decode b_X_init 35 = .ok (.aload_n 0, 1) := by decide +kernel
theorem d_X_init_36 : decode b_X_init 36 = .ok (.bipush 8, 2) := by decide +kernel
theorem d_X_init_38 : decode b_X_init 38 = .ok (.anewarray 29, 3) := by decide +kernel
theorem d_X_init_41 : decode b_X_init 41 = .ok (.putfield 31, 3) := by decide +kernel
theorem d_X_init_44 : decode b_X_init 44 = .ok (.aload_n 0, 1) := by decide +kernel
theorem d_X_init_45 : decode b_X_init 45 = .ok (.new 35, 3) := by decide +kernel
theorem d_X_init_48 : decode b_X_init 48 = .ok (.dup, 1) := by decide +kernel
theorem d_X_init_49 : decode b_X_init 49 = .ok (.invokespecial 37, 3) := by decide +kernel
theorem d_X_init_52 : decode b_X_init 52 = .ok (.putfield 38, 3) := by decide +kernel
theorem d_X_init_55 : decode b_X_init 55 = .ok (.iconst 0, 1) := by decide +kernel
theorem d_X_init_56 : decode b_X_init 56 = .ok (.istore_n 1, 1) := by decide +kernel
theorem d_X_init_57 : decode b_X_init 57 = .ok (.iload_n 1, 1) := by decide +kernel
theorem d_X_init_58 : decode b_X_init 58 = .ok (.bipush 16, 2) := by decide +kernel
theorem d_X_init_60 : decode b_X_init 60 = .ok (.if_icmp .ge 22, 3) := by decide +kernel
theorem d_X_init_63 : decode b_X_init 63 = .ok (.aload_n 0, 1) := by decide +kernel
theorem d_X_init_64 : decode b_X_init 64 = .ok (.getfield 25, 3) := by decide +kernel
theorem d_X_init_67 : decode b_X_init 67 = .ok (.iload_n 1, 1) := by decide +kernel
theorem d_X_init_68 : decode b_X_init 68 = .ok (.new 23, 3) := by decide +kernel
theorem d_X_init_71 : decode b_X_init 71 = .ok (.dup, 1) := by decide +kernel
theorem d_X_init_72 : decode b_X_init 72 = .ok (.invokespecial 42, 3) := by decide +kernel
theorem d_X_init_75 : decode b_X_init 75 = .ok (.aastore, 1) := by decide +kernel
theorem d_X_init_76 : decode b_X_init 76 = .ok (.iinc 1 1, 3) := by decide +kernel
theorem d_X_init_79 : decode b_X_init 79 = .ok (.goto (-22), 3) := by decide +kernel
theorem d_X_init_82 : decode b_X_init 82 = .ok (.iconst 0, 1) := by decide +kernel
theorem d_X_init_83 : decode b_X_init 83 = .ok (.istore_n 1, 1) := by decide +kernel
theorem d_X_init_84 : decode b_X_init 84 = .ok (.iload_n 1, 1) := by decide +kernel
theorem d_X_init_85 : decode b_X_init 85 = .ok (.bipush 8, 2) := by decide +kernel
theorem d_X_init_87 : decode b_X_init 87 = .ok (.if_icmp .ge 22, 3) := by decide +kernel
theorem d_X_init_90 : decode b_X_init 90 = .ok (.aload_n 0, 1) := by decide +kernel
theorem d_X_init_91 : decode b_X_init 91 = .ok (.getfield 31, 3) := by decide +kernel
theorem d_X_init_94 : decode b_X_init 94 = .ok (.iload_n 1, 1) := by decide +kernel
theorem d_X_init_95 : decode b_X_init 95 = .ok (.new 29, 3) := by decide +kernel
theorem d_X_init_98 : decode b_X_init 98 = .ok (.dup, 1) := by decide +kernel
theorem d_X_init_99 : decode b_X_init 99 = .ok (.invokespecial 43, 3) := by decide +kernel
theorem d_X_init_102 : decode b_X_init 102 = .ok (.aastore, 1) := by decide +kernel
theorem d_X_init_103 : decode b_X_init 103 = .ok (.iinc 1 1, 3) := by decide +kernel
theorem d_X_init_106 : decode b_X_init 106 = .ok (.goto (-22), 3) := by decide +kernel
theorem d_X_init_109 : decode b_X_init 109 = .ok (.return_, 1) := by decide +kernel
theorem d_F_init_0 : decode b_F_init 0 = .ok (.aload_n 0, 1) := by decide +kernel
theorem d_F_init_1 : decode b_F_init 1 = .ok (.invokespecial 3, 3) := by decide +kernel
theorem d_F_init_4 : decode b_F_init 4 = .ok (.aload_n 0, 1) := by decide +kernel
theorem d_F_init_5 : decode b_F_init 5 = .ok (.bipush 16, 2) := by decide +kernel
theorem d_F_init_7 : decode b_F_init 7 = .ok (.newarray .int, 2) := by decide +kernel
theorem d_F_init_9 : decode b_F_init 9 = .ok (.putfield 9, 3) := by decide +kernel
theorem d_F_init_12 : decode b_F_init 12 = .ok (.aload_n 0, 1) := by decide +kernel
theorem d_F_init_13 : decode b_F_init 13 = .ok (.bipush 16, 2) := by decide +kernel
theorem d_F_init_15 : decode b_F_init 15 = .ok (.newarray .int, 2) := by decide +kernel
theorem d_F_init_17 : decode b_F_init 17 = .ok (.putfield 15, 3) := by decide +kernel
theorem d_F_init_20 : decode b_F_init 20 = .ok (.return_, 1) := by decide +kernel
theorem d_C_init_0 : decode b_C_init 0 = .ok (.aload_n 0, 1) := by decide +kernel
theorem d_C_init_1 : decode b_C_init 1 = .ok (.invokespecial 3, 3) := by decide +kernel
theorem d_C_init_4 : decode b_C_init 4 = .ok (.aload_n 0, 1) := by decide +kernel
theorem d_C_init_5 : decode b_C_init 5 = .ok (.bipush 64, 2) := by decide +kernel
theorem d_C_init_7 : decode b_C_init 7 = .ok (.newarray .int, 2) := by decide +kernel
theorem d_C_init_9 : decode b_C_init 9 = .ok (.putfield 9, 3) := by decide +kernel
theorem d_C_init_12 : decode b_C_init 12 = .ok (.return_, 1) := by decide +kernel
theorem d_K_init_0 : decode b_K_init 0 = .ok (.aload_n 0, 1) := by decide +kernel
theorem d_K_init_1 : decode b_K_init 1 = .ok (.invokespecial 1, 3) := by decide +kernel
theorem d_K_init_4 : decode b_K_init 4 = .ok (.return_, 1) := by decide +kernel
theorem d_A_init_0 : decode b_A_init 0 = .ok (.aload_n 0, 1) := by decide +kernel
theorem d_A_init_1 : decode b_A_init 1 = .ok (.invokespecial 3, 3) := by decide +kernel
theorem d_A_init_4 : decode b_A_init 4 = .ok (.aload_n 0, 1) := by decide +kernel
theorem d_A_init_5 : decode b_A_init 5 = .ok (.iconst 4, 1) := by decide +kernel
theorem d_A_init_6 : decode b_A_init 6 = .ok (.anewarray 9, 3) := by decide +kernel
theorem d_A_init_9 : decode b_A_init 9 = .ok (.putfield 11, 3) := by decide +kernel
theorem d_A_init_12 : decode b_A_init 12 = .ok (.iconst 0, 1) := by decide +kernel
theorem d_A_init_13 : decode b_A_init 13 = .ok (.istore_n 1, 1) := by decide +kernel
theorem d_A_init_14 : decode b_A_init 14 = .ok (.iload_n 1, 1) := by decide +kernel
theorem d_A_init_15 : decode b_A_init 15 = .ok (.iconst 4, 1) := by decide +kernel
theorem d_A_init_16 : decode b_A_init 16 = .ok (.if_icmp .ge 22, 3) := by decide +kernel
theorem d_A_init_19 : decode b_A_init 19 = .ok (.aload_n 0, 1) := by decide +kernel
theorem d_A_init_20 : decode b_A_init 20 = .ok (.getfield 11, 3) := by decide +kernel
theorem d_A_init_23 : decode b_A_init 23 = .ok (.iload_n 1, 1) := by decide +kernel
theorem d_A_init_24 : decode b_A_init 24 = .ok (.new 9, 3) := by decide +kernel
theorem d_A_init_27 : decode b_A_init 27 = .ok (.dup, 1) := by decide +kernel
theorem d_A_init_28 : decode b_A_init 28 = .ok (.invokespecial 17, 3) := by decide +kernel
theorem d_A_init_31 : decode b_A_init 31 = .ok (.aastore, 1) := by decide +kernel
theorem d_A_init_32 : decode b_A_init 32 = .ok (.iinc 1 1, 3) := by decide +kernel
theorem d_A_init_35 : decode b_A_init 35 = .ok (.goto (-21), 3) := by decide +kernel
theorem d_A_init_38 : decode b_A_init 38 = .ok (.return_, 1) := by decide +kernel
theorem d_D_init_0 : decode b_D_init 0 = .ok (.aload_n 0, 1) := by decide +kernel
theorem d_D_init_1 : decode b_D_init 1 = .ok (.invokespecial 1, 3) := by decide +kernel
theorem d_D_init_4 : decode b_D_init 4 = .ok (.return_, 1) := by decide +kernel
theorem d_T_init_0 : decode b_T_init 0 = .ok (.aload_n 0, 1) := by decide +kernel
theorem d_T_init_1 : decode b_T_init 1 = .ok (.invokespecial 3, 3) := by decide +kernel
theorem d_T_init_4 : decode b_T_init 4 = .ok (.aload_n 0, 1) := by decide +kernel
theorem d_T_init_5 : decode b_T_init 5 = .ok (.bipush 20, 2) := by decide +kernel
theorem d_T_init_7 : decode b_T_init 7 = .ok (.anewarray 9, 3) := by decide +kernel
theorem d_T_init_10 : decode b_T_init 10 = .ok (.putfield 11, 3) := by decide +kernel
theorem d_T_init_13 : decode b_T_init 13 = .ok (.aload_n 0, 1) := by decide +kernel
theorem d_T_init_14 : decode b_T_init 14 = .ok (.new 17, 3) := by decide +kernel
theorem d_T_init_17 : decode b_T_init 17 = .ok (.dup, 1) := by decide +kernel
theorem d_T_init_18 : decode b_T_init 18 = .ok (.invokespecial 19, 3) := by decide +kernel
theorem d_T_init_21 : decode b_T_init 21 = .ok (.putfield 20, 3) := by decide +kernel
theorem d_T_init_24 : decode b_T_init 24 = .ok (.iconst 0, 1) := by decide +kernel
theorem d_T_init_25 : decode b_T_init 25 = .ok (.istore_n 1, 1) := by decide +kernel
theorem d_T_init_26 : decode b_T_init 26 = .ok (.iload_n 1, 1) := by decide +kernel
theorem d_T_init_27 : decode b_T_init 27 = .ok (.bipush 20, 2) := by decide +kernel
theorem d_T_init_29 : decode b_T_init 29 = .ok (.if_icmp .ge 22, 3) := by decide +kernel
theorem d_T_init_32 : decode b_T_init 32 = .ok (.aload_n 0, 1) := by decide +kernel
theorem d_T_init_33 : decode b_T_init 33 = .ok (.getfield 11, 3) := by decide +kernel
theorem d_T_init_36 : decode b_T_init 36 = .ok (.iload_n 1, 1) := by decide +kernel
theorem d_T_init_37 : decode b_T_init 37 = .ok (.new 9, 3) := by decide +kernel
theorem d_T_init_40 : decode b_T_init 40 = .ok (.dup, 1) := by decide +kernel
theorem d_T_init_41 : decode b_T_init 41 = .ok (.invokespecial 24, 3) := by decide +kernel
theorem d_T_init_44 : decode b_T_init 44 = .ok (.aastore, 1) := by decide +kernel
theorem d_T_init_45 : decode b_T_init 45 = .ok (.iinc 1 1, 3) := by decide +kernel
theorem d_T_init_48 : decode b_T_init 48 = .ok (.goto (-22), 3) := by decide +kernel
theorem d_T_init_51 : decode b_T_init 51 = .ok (.return_, 1) := by decide +kernel
theorem d_E_init_0 : decode b_E_init 0 = .ok (.aload_n 0, 1) := by decide +kernel
theorem d_E_init_1 : decode b_E_init 1 = .ok (.invokespecial 1, 3) := by decide +kernel
theorem d_E_init_4 : decode b_E_init 4 = .ok (.aload_n 0, 1) := by decide +kernel
theorem d_E_init_5 : decode b_E_init 5 = .ok (.new 7, 3) := by decide +kernel
theorem d_E_init_8 : decode b_E_init 8 = .ok (.dup, 1) := by decide +kernel
theorem d_E_init_9 : decode b_E_init 9 = .ok (.invokespecial 9, 3) := by decide +kernel
theorem d_E_init_12 : decode b_E_init 12 = .ok (.putfield 10, 3) := by decide +kernel
theorem d_E_init_15 : decode b_E_init 15 = .ok (.return_, 1) := by decide +kernel
theorem d_X_clear_0 : decode b_X_clear 0 = .ok (.aload_n 0, 1) := by decide +kernel
theorem d_X_clear_1 : decode b_X_clear 1 = .ok (.getfield 10, 3) := by decide +kernel
theorem d_X_clear_4 : decode b_X_clear 4 = .ok (.invokevirtual 44, 3) := by decide +kernel
theorem d_X_clear_7 : decode b_X_clear 7 = .ok (.aload_n 0, 1) := by decide +kernel
theorem d_X_clear_8 : decode b_X_clear 8 = .ok (.getfield 19, 3) := by decide +kernel
theorem d_X_clear_11 : decode b_X_clear 11 = .ok (.invokevirtual 47, 3) := by decide +kernel
theorem d_X_clear_14 : decode b_X_clear 14 = .ok (.aload_n 0, 1) := by decide +kernel
theorem d_X_clear_15 : decode b_X_clear 15 = .ok (.iconst 0, 1) := by decide +kernel
theorem d_X_clear_16 : decode b_X_clear 16 = .ok (.putfield 48, 3) := by decide +kernel
theorem d_X_clear_19 : decode b_X_clear 19 = .ok (.aload_n 0, 1) := by decide +kernel
theorem d_X_clear_20 : decode b_X_clear 20 = .ok (.iconst 0, 1) := by decide +kernel
theorem d_X_clear_21 : decode b_X_clear 21 = .ok (.putfield 52, 3) := by decide +kernel
theorem d_X_clear_24 : decode b_X_clear 24 = .ok (.aload_n 0, 1) := by decide +kernel
theorem d_X_clear_25 : decode b_X_clear 25 = .ok (.getfield 38, 3) := by decide +kernel
theorem d_X_clear_28 : decode b_X_clear 28 = .ok (.iconst 0, 1) := by decide +kernel
theorem d_X_clear_29 : decode b_X_clear 29 = .ok (.iconst 0, 1) := by decide +kernel
theorem d_X_clear_30 : decode b_X_clear 30 = .ok (.iconst 0, 1) := by decide +kernel
theorem d_X_clear_31 : decode b_X_clear 31 = .ok (.iconst 0, 1) := by decide +kernel
theorem d_X_clear_32 : decode b_X_clear 32 = .ok (.invokevirtual 55, 3) := by decide +kernel
theorem d_X_clear_35 : decode b_X_clear 35 = .ok (.aload_n 0, 1) := by decide +kernel
theorem d_X_clear_36 : decode b_X_clear 36 = .ok (.iconst 0, 1) := by decide +kernel
theorem d_X_clear_37 : decode b_X_clear 37 = .ok (.putfield 59, 3) := by decide +kernel
theorem d_X_clear_40 : decode b_X_clear 40 = .ok (.aload_n 0, 1) := by decide +kernel
theorem d_X_clear_41 : decode b_X_clear 41 = .ok (.iconst 0, 1) := by decide +kernel
theorem d_X_clear_42 : decode b_X_clear 42 = .ok (.putfield 62, 3) := by decide +kernel
theorem d_X_clear_45 : decode b_X_clear 45 = .ok (.return_, 1) := by decide +kernel
theorem d_F_forget_0 : decode b_F_forget 0 = .ok (.aload_n 0, 1) := by decide +kernel
theorem d_F_forget_1 : decode b_F_forget 1 = .ok (.iconst 0, 1) := by decide +kernel
theorem d_F_forget_2 : decode b_F_forget 2 = .ok (.putfield 18, 3) := by decide +kernel
theorem d_F_forget_5 : decode b_F_forget 5 = .ok (.return_, 1) := by decide +kernel
theorem d_C_forget_0 : decode b_C_forget 0 = .ok (.aload_n 0, 1) := by decide +kernel
theorem d_C_forget_1 : decode b_C_forget 1 = .ok (.getfield 9, 3) := by decide +kernel
theorem d_C_forget_4 : decode b_C_forget 4 = .ok (.iconst 0, 1) := by decide +kernel
theorem d_C_forget_5 : decode b_C_forget 5 = .ok (.invokestatic 15, 3) := by decide +kernel
theorem d_C_forget_8 : decode b_C_forget 8 = .ok (.return_, 1) := by decide +kernel
theorem d_JA_fill_0 : decode b_JA_fill 0 = .ok (.iconst 0, 1) := by decide +kernel
theorem d_JA_fill_1 : decode b_JA_fill 1 = .ok (.istore_n 2, 1) := by decide +kernel
theorem d_JA_fill_2 : decode b_JA_fill 2 = .ok (.aload_n 0, 1) := by decide +kernel
theorem d_JA_fill_3 : decode b_JA_fill 3 = .ok (.arraylength, 1) := by decide +kernel
theorem d_JA_fill_4 : decode b_JA_fill 4 = .ok (.istore_n 3, 1) := by decide +kernel
theorem d_JA_fill_5 : decode b_JA_fill 5 = .ok (.iload_n 2, 1) := by decide +kernel
theorem d_JA_fill_6 : decode b_JA_fill 6 = .ok (.iload_n 3, 1) := by decide +kernel
theorem d_JA_fill_7 : decode b_JA_fill 7 = .ok (.if_icmp .ge 13, 3) := by decide +kernel
theorem d_JA_fill_10 : decode b_JA_fill 10 = .ok (.aload_n 0, 1) := by decide +kernel
theorem d_JA_fill_11 : decode b_JA_fill 11 = .ok (.iload_n 2, 1) := by decide +kernel
theorem d_JA_fill_12 : decode b_JA_fill 12 = .ok (.iload_n 1, 1) := by decide +kernel
theorem d_JA_fill_13 : decode b_JA_fill 13 = .ok (.iastore, 1) := by decide +kernel
theorem d_JA_fill_14 : decode b_JA_fill 14 = .ok (.iinc 2 1, 3) := by decide +kernel
theorem d_JA_fill_17 : decode b_JA_fill 17 = .ok (.goto (-12), 3) := by decide +kernel
theorem d_JA_fill_20 : decode b_JA_fill 20 = .ok (.return_, 1) := by decide +kernel
theorem d_K_hold_0 : decode b_K_hold 0 = .ok (.aload_n 0, 1) := by decide +kernel
theorem d_K_hold_1 : decode b_K_hold 1 = .ok (.iload_n 1, 1) := by decide +kernel
theorem d_K_hold_2 : decode b_K_hold 2 = .ok (.putfield 7, 3) := by decide +kernel
theorem d_K_hold_5 : decode b_K_hold 5 = .ok (.aload_n 0, 1) := by decide +kernel
theorem d_K_hold_6 : decode b_K_hold 6 = .ok (.iload_n 2, 1) := by decide +kernel
theorem d_K_hold_7 : decode b_K_hold 7 = .ok (.putfield 13, 3) := by decide +kernel
theorem d_K_hold_10 : decode b_K_hold 10 = .ok (.aload_n 0, 1) := by decide +kernel
theorem d_K_hold_11 : decode b_K_hold 11 = .ok (.iload_n 3, 1) := by decide +kernel
theorem d_K_hold_12 : decode b_K_hold 12 = .ok (.putfield 16, 3) := by decide +kernel
theorem d_K_hold_15 : decode b_K_hold 15 = .ok (.aload_n 0, 1) := by decide +kernel
theorem d_K_hold_16 : decode b_K_hold 16 = .ok (.iload 4, 2) := by decide +kernel
theorem d_K_hold_18 : decode b_K_hold 18 = .ok (.putfield 19, 3) := by decide +kernel
theorem d_K_hold_21 : decode b_K_hold 21 = .ok (.return_, 1) := by decide +kernel
theorem d_X_get_0 : decode b_X_get 0 = .ok (.aload_n 0, 1) := by decide +kernel
theorem d_X_get_1 : decode b_X_get 1 = .ok (.getfield 10, 3) := by decide +kernel
theorem d_X_get_4 : decode b_X_get 4 = .ok (.iload_n 1, 1) := by decide +kernel
theorem d_X_get_5 : decode b_X_get 5 = .ok (.invokevirtual 99, 3) := by decide +kernel
theorem d_X_get_8 : decode b_X_get 8 = .ok (.ireturn, 1) := by decide +kernel
theorem d_F_read_0 : decode b_F_read 0 = .ok (.aload_n 0, 1) := by decide +kernel
theorem d_F_read_1 : decode b_F_read 1 = .ok (.iload_n 1, 1) := by decide +kernel
theorem d_F_read_2 : decode b_F_read 2 = .ok (.invokevirtual 26, 3) := by decide +kernel
theorem d_F_read_5 : decode b_F_read 5 = .ok (.ifCond .eq 12, 3) := by decide +kernel
theorem d_F_read_8 : decode b_F_read 8 = .ok (.aload_n 0, 1) := by decide +kernel
theorem d_F_read_9 : decode b_F_read 9 = .ok (.getfield 15, 3) := by decide +kernel
theorem d_F_read_12 : decode b_F_read 12 = .ok (.iload_n 1, 1) := by decide +kernel
theorem d_F_read_13 : decode b_F_read 13 = .ok (.iaload, 1) := by decide +kernel
theorem d_F_read_14 : decode b_F_read 14 = .ok (.goto 4, 3) := by decide +kernel
theorem d_F_read_17 : decode b_F_read 17 = .ok (.iconst 0, 1) := by decide +kernel
theorem d_F_read_18 : decode b_F_read 18 = .ok (.ireturn, 1) := by decide +kernel
theorem d_F_isThere_0 : decode b_F_isThere 0 = .ok (.iload_n 1, 1) := by decide +kernel
theorem d_F_isThere_1 : decode b_F_isThere 1 = .ok (.ifCond .lt 15, 3) := by decide +kernel
theorem d_F_isThere_4 : decode b_F_isThere 4 = .ok (.iload_n 1, 1) := by decide +kernel
theorem d_F_isThere_5 : decode b_F_isThere 5 = .ok (.aload_n 0, 1) := by decide +kernel
theorem d_F_isThere_6 : decode b_F_isThere 6 = .ok (.getfield 18, 3) := by decide +kernel
theorem d_F_isThere_9 : decode b_F_isThere 9 = .ok (.if_icmp .ge 7, 3) := by decide +kernel
theorem d_F_isThere_12 : decode b_F_isThere 12 = .ok (.iconst 1, 1) := by decide +kernel
theorem d_F_isThere_13 : decode b_F_isThere 13 = .ok (.goto 4, 3) := by decide +kernel
theorem d_F_isThere_16 : decode b_F_isThere 16 = .ok (.iconst 0, 1) := by decide +kernel
theorem d_F_isThere_17 : decode b_F_isThere 17 = .ok (.ireturn, 1) := by decide +kernel
theorem d_X_key_0 : decode b_X_key 0 = .ok (.aload_n 0, 1) := by decide +kernel
theorem d_X_key_1 : decode b_X_key 1 = .ok (.getfield 38, 3) := by decide +kernel
theorem d_X_key_4 : decode b_X_key 4 = .ok (.iload_n 1, 1) := by decide +kernel
theorem d_X_key_5 : decode b_X_key 5 = .ok (.iload_n 2, 1) := by decide +kernel
theorem d_X_key_6 : decode b_X_key 6 = .ok (.iload_n 3, 1) := by decide +kernel
theorem d_X_key_7 : decode b_X_key 7 = .ok (.iload 4, 2) := by decide +kernel
theorem d_X_key_9 : decode b_X_key 9 = .ok (.invokevirtual 55, 3) := by decide +kernel
theorem d_X_key_12 : decode b_X_key 12 = .ok (.return_, 1) := by decide +kernel
theorem d_X_matches_0 : decode b_X_matches 0 = .ok (.aload_n 0, 1) := by decide +kernel
theorem d_X_matches_1 : decode b_X_matches 1 = .ok (.iload_n 1, 1) := by decide +kernel
theorem d_X_matches_2 : decode b_X_matches 2 = .ok (.invokevirtual 149, 3) := by decide +kernel
theorem d_X_matches_5 : decode b_X_matches 5 = .ok (.ifCond .ne 5, 3) := by decide +kernel
theorem d_X_matches_8 : decode b_X_matches 8 = .ok (.iconst (-1), 1) := by decide +kernel
theorem d_X_matches_9 : decode b_X_matches 9 = .ok (.ireturn, 1) := by decide +kernel
theorem d_X_matches_10 : decode b_X_matches 10 = .ok (.aload_n 0, 1) := by decide +kernel
theorem d_X_matches_11 : decode b_X_matches 11 = .ok (.getfield 31, 3) := by decide +kernel
theorem d_X_matches_14 : decode b_X_matches 14 = .ok (.iload_n 1, 1) := by decide +kernel
theorem d_X_matches_15 : decode b_X_matches 15 = .ok (.aaload, 1) := by decide +kernel
theorem d_X_matches_16 : decode b_X_matches 16 = .ok (.aload_n 0, 1) := by decide +kernel
theorem d_X_matches_17 : decode b_X_matches 17 = .ok (.getfield 10, 3) := by decide +kernel
theorem d_X_matches_20 : decode b_X_matches 20 = .ok (.invokevirtual 162, 3) := by decide +kernel
theorem d_X_matches_23 : decode b_X_matches 23 = .ok (.astore_n 2, 1) := by decide +kernel
theorem d_X_matches_24 : decode b_X_matches 24 = .ok (.aload_n 2, 1) := by decide +kernel
theorem d_X_matches_25 : decode b_X_matches 25 = .ok (.ifnonnull 7, 3) := by decide +kernel
theorem d_X_matches_28 : decode b_X_matches 28 = .ok (.iconst (-1), 1) := by decide +kernel
theorem d_X_matches_29 : decode b_X_matches 29 = .ok (.goto 7, 3) := by decide +kernel
theorem d_X_matches_32 : decode b_X_matches 32 = .ok (.aload_n 2, 1) := by decide +kernel
theorem d_X_matches_33 : decode b_X_matches 33 = .ok (.getfield 173, 3) := by decide +kernel
theorem d_X_matches_36 : decode b_X_matches 36 = .ok (.ireturn, 1) := by decide +kernel
theorem d_X_isTable_0 : decode b_X_isTable 0 = .ok (.iload_n 1, 1) := by decide +kernel
theorem d_X_isTable_1 : decode b_X_isTable 1 = .ok (.ifCond .lt 15, 3) := by decide +kernel
theorem d_X_isTable_4 : decode b_X_isTable 4 = .ok (.iload_n 1, 1) := by decide +kernel
theorem d_X_isTable_5 : decode b_X_isTable 5 = .ok (.aload_n 0, 1) := by decide +kernel
theorem d_X_isTable_6 : decode b_X_isTable 6 = .ok (.getfield 52, 3) := by decide +kernel
theorem d_X_isTable_9 : decode b_X_isTable 9 = .ok (.if_icmp .ge 7, 3) := by decide +kernel
theorem d_X_isTable_12 : decode b_X_isTable 12 = .ok (.iconst 1, 1) := by decide +kernel
theorem d_X_isTable_13 : decode b_X_isTable 13 = .ok (.goto 4, 3) := by decide +kernel
theorem d_X_isTable_16 : decode b_X_isTable 16 = .ok (.iconst 0, 1) := by decide +kernel
theorem d_X_isTable_17 : decode b_X_isTable 17 = .ok (.ireturn, 1) := by decide +kernel
theorem d_T_bestMatch_0 : decode b_T_bestMatch 0 = .ok (.aload_n 1, 1) := by decide +kernel
theorem d_T_bestMatch_1 : decode b_T_bestMatch 1 = .ok (.aload_n 0, 1) := by decide +kernel
theorem d_T_bestMatch_2 : decode b_T_bestMatch 2 = .ok (.getfield 25, 3) := by decide +kernel
theorem d_T_bestMatch_5 : decode b_T_bestMatch 5 = .ok (.invokevirtual 100, 3) := by decide +kernel
theorem d_T_bestMatch_8 : decode b_T_bestMatch 8 = .ok (.istore_n 2, 1) := by decide +kernel
theorem d_T_bestMatch_9 : decode b_T_bestMatch 9 = .ok (.aload_n 1, 1) := by decide +kernel
theorem d_T_bestMatch_10 : decode b_T_bestMatch 10 = .ok (.aload_n 0, 1) := by decide +kernel
theorem d_T_bestMatch_11 : decode b_T_bestMatch 11 = .ok (.getfield 29, 3) := by decide +kernel
theorem d_T_bestMatch_14 : decode b_T_bestMatch 14 = .ok (.invokevirtual 100, 3) := by decide +kernel
theorem d_T_bestMatch_17 : decode b_T_bestMatch 17 = .ok (.istore_n 3, 1) := by decide +kernel
theorem d_T_bestMatch_18 : decode b_T_bestMatch 18 = .ok (.aconst_null, 1) := by decide +kernel
theorem d_T_bestMatch_19 : decode b_T_bestMatch 19 = .ok (.astore 4, 2) := by decide +kernel
theorem d_T_bestMatch_21 : decode b_T_bestMatch 21 = .ok (.iconst 0, 1) := by decide +kernel
theorem d_T_bestMatch_22 : decode b_T_bestMatch 22 = .ok (.istore 5, 2) := by decide +kernel
theorem d_T_bestMatch_24 : decode b_T_bestMatch 24 = .ok (.iload 5, 2) := by decide +kernel
theorem d_T_bestMatch_26 : decode b_T_bestMatch 26 = .ok (.aload_n 0, 1) := by decide +kernel
theorem d_T_bestMatch_27 : decode b_T_bestMatch 27 = .ok (.getfield 38, 3) := by decide +kernel
theorem d_T_bestMatch_30 : decode b_T_bestMatch 30 = .ok (.if_icmp .ge 51, 3) := by decide +kernel
theorem d_T_bestMatch_33 : decode b_T_bestMatch 33 = .ok (.aload_n 0, 1) := by decide +kernel
theorem d_T_bestMatch_34 : decode b_T_bestMatch 34 = .ok (.getfield 11, 3) := by decide +kernel
theorem d_T_bestMatch_37 : decode b_T_bestMatch 37 = .ok (.iload 5, 2) := by decide +kernel
theorem d_T_bestMatch_39 : decode b_T_bestMatch 39 = .ok (.aaload, 1) := by decide +kernel
theorem d_T_bestMatch_40 : decode b_T_bestMatch 40 = .ok (.astore 6, 2) := by decide +kernel
theorem d_T_bestMatch_42 : decode b_T_bestMatch 42 = .ok (.aload 6, 2) := by decide +kernel
theorem d_T_bestMatch_44 : decode b_T_bestMatch 44 = .ok (.getfield 69, 3) := by decide +kernel
theorem d_T_bestMatch_47 : decode b_T_bestMatch 47 = .ok (.iload_n 2, 1) := by decide +kernel
theorem d_T_bestMatch_48 : decode b_T_bestMatch 48 = .ok (.iload_n 3, 1) := by decide +kernel
theorem d_T_bestMatch_49 : decode b_T_bestMatch 49 = .ok (.invokevirtual 106, 3) := by decide +kernel
theorem d_T_bestMatch_52 : decode b_T_bestMatch 52 = .ok (.ifCond .eq 23, 3) := by decide +kernel
theorem d_T_bestMatch_55 : decode b_T_bestMatch 55 = .ok (.aload 4, 2) := by decide +kernel
theorem d_T_bestMatch_57 : decode b_T_bestMatch 57 = .ok (.ifnull 14, 3) := by decide +kernel
theorem d_T_bestMatch_60 : decode b_T_bestMatch 60 = .ok (.aload_n 0, 1) := by decide +kernel
theorem d_T_bestMatch_61 : decode b_T_bestMatch 61 = .ok (.aload 6, 2) := by decide +kernel
theorem d_T_bestMatch_63 : decode b_T_bestMatch 63 = .ok (.aload 4, 2) := by decide +kernel
theorem d_T_bestMatch_65 : decode b_T_bestMatch 65 = .ok (.invokevirtual 110, 3) := by decide +kernel
theorem d_T_bestMatch_68 : decode b_T_bestMatch 68 = .ok (.ifCond .eq 7, 3) := by decide +kernel
theorem d_T_bestMatch_71 : decode b_T_bestMatch 71 = .ok (.aload 6, 2) := by decide +kernel
theorem d_T_bestMatch_73 : decode b_T_bestMatch 73 = .ok (.astore 4, 2) := by decide +kernel
theorem d_T_bestMatch_75 : decode b_T_bestMatch 75 = .ok (.iinc 5 1, 3) := by decide +kernel
theorem d_T_bestMatch_78 : decode b_T_bestMatch 78 = .ok (.goto (-54), 3) := by decide +kernel
theorem d_T_bestMatch_81 : decode b_T_bestMatch 81 = .ok (.aload 4, 2) := by decide +kernel
theorem d_T_bestMatch_83 : decode b_T_bestMatch 83 = .ok (.areturn, 1) := by decide +kernel
theorem d_K_fits_0 : decode b_K_fits 0 = .ok (.iload_n 1, 1) := by decide +kernel
theorem d_K_fits_1 : decode b_K_fits 1 = .ok (.aload_n 0, 1) := by decide +kernel
theorem d_K_fits_2 : decode b_K_fits 2 = .ok (.getfield 13, 3) := by decide +kernel
theorem d_K_fits_5 : decode b_K_fits 5 = .ok (.iand, 1) := by decide +kernel
theorem d_K_fits_6 : decode b_K_fits 6 = .ok (.aload_n 0, 1) := by decide +kernel
theorem d_K_fits_7 : decode b_K_fits 7 = .ok (.getfield 7, 3) := by decide +kernel
theorem d_K_fits_10 : decode b_K_fits 10 = .ok (.if_icmp .ne 20, 3) := by decide +kernel
theorem d_K_fits_13 : decode b_K_fits 13 = .ok (.iload_n 2, 1) := by decide +kernel
theorem d_K_fits_14 : decode b_K_fits 14 = .ok (.aload_n 0, 1) := by decide +kernel
theorem d_K_fits_15 : decode b_K_fits 15 = .ok (.getfield 19, 3) := by decide +kernel
theorem d_K_fits_18 : decode b_K_fits 18 = .ok (.iand, 1) := by decide +kernel
theorem d_K_fits_19 : decode b_K_fits 19 = .ok (.aload_n 0, 1) := by decide +kernel
theorem d_K_fits_20 : decode b_K_fits 20 = .ok (.getfield 16, 3) := by decide +kernel
theorem d_K_fits_23 : decode b_K_fits 23 = .ok (.if_icmp .ne 7, 3) := by decide +kernel
theorem d_K_fits_26 : decode b_K_fits 26 = .ok (.iconst 1, 1) := by decide +kernel
theorem d_K_fits_27 : decode b_K_fits 27 = .ok (.goto 4, 3) := by decide +kernel
theorem d_K_fits_30 : decode b_K_fits 30 = .ok (.iconst 0, 1) := by decide +kernel
theorem d_K_fits_31 : decode b_K_fits 31 = .ok (.ireturn, 1) := by decide +kernel
theorem d_T_isBetter_0 : decode b_T_isBetter 0 = .ok (.aload_n 0, 1) := by decide +kernel
theorem d_T_isBetter_1 : decode b_T_isBetter 1 = .ok (.aload_n 1, 1) := by decide +kernel
theorem d_T_isBetter_2 : decode b_T_isBetter 2 = .ok (.getfield 69, 3) := by decide +kernel
theorem d_T_isBetter_5 : decode b_T_isBetter 5 = .ok (.invokevirtual 114, 3) := by decide +kernel
theorem d_T_isBetter_8 : decode b_T_isBetter 8 = .ok (.istore_n 3, 1) := by decide +kernel
theorem d_T_isBetter_9 : decode b_T_isBetter 9 = .ok (.aload_n 0, 1) := by decide +kernel
theorem d_T_isBetter_10 : decode b_T_isBetter 10 = .ok (.aload_n 2, 1) := by decide +kernel
theorem d_T_isBetter_11 : decode b_T_isBetter 11 = .ok (.getfield 69, 3) := by decide +kernel
theorem d_T_isBetter_14 : decode b_T_isBetter 14 = .ok (.invokevirtual 114, 3) := by decide +kernel
theorem d_T_isBetter_17 : decode b_T_isBetter 17 = .ok (.istore 4, 2) := by decide +kernel
theorem d_T_isBetter_19 : decode b_T_isBetter 19 = .ok (.iload_n 3, 1) := by decide +kernel
theorem d_T_isBetter_20 : decode b_T_isBetter 20 = .ok (.iload 4, 2) := by decide +kernel
theorem d_T_isBetter_22 : decode b_T_isBetter 22 = .ok (.if_icmp .eq 15, 3) := by decide +kernel
theorem d_T_isBetter_25 : decode b_T_isBetter 25 = .ok (.iload_n 3, 1) := by decide +kernel
theorem d_T_isBetter_26 : decode b_T_isBetter 26 = .ok (.iload 4, 2) := by decide +kernel
theorem d_T_isBetter_28 : decode b_T_isBetter 28 = .ok (.if_icmp .le 7, 3) := by decide +kernel
theorem d_T_isBetter_31 : decode b_T_isBetter 31 = .ok (.iconst 1, 1) := by decide +kernel
theorem d_T_isBetter_32 : decode b_T_isBetter 32 = .ok (.goto 4, 3) := by decide +kernel
theorem d_T_isBetter_35 : decode b_T_isBetter 35 = .ok (.iconst 0, 1) := by decide +kernel
theorem d_T_isBetter_36 : decode b_T_isBetter 36 = .ok (.ireturn, 1) := by decide +kernel
theorem d_T_isBetter_37 : decode b_T_isBetter 37 = .ok (.aload_n 1, 1) := by decide +kernel
theorem d_T_isBetter_38 : decode b_T_isBetter 38 = .ok (.getfield 88, 3) := by decide +kernel
theorem d_T_isBetter_41 : decode b_T_isBetter 41 = .ok (.aload_n 2, 1) := by decide +kernel
theorem d_T_isBetter_42 : decode b_T_isBetter 42 = .ok (.getfield 88, 3) := by decide +kernel
theorem d_T_isBetter_45 : decode b_T_isBetter 45 = .ok (.if_icmp .le 7, 3) := by decide +kernel
theorem d_T_isBetter_48 : decode b_T_isBetter 48 = .ok (.iconst 1, 1) := by decide +kernel
theorem d_T_isBetter_49 : decode b_T_isBetter 49 = .ok (.goto 4, 3) := by decide +kernel
theorem d_T_isBetter_52 : decode b_T_isBetter 52 = .ok (.iconst 0, 1) := by decide +kernel
theorem d_T_isBetter_53 : decode b_T_isBetter 53 = .ok (.ireturn, 1) := by decide +kernel
theorem d_T_prefixOnes_0 : decode b_T_prefixOnes 0 = .ok (.aload_n 0, 1) := by decide +kernel
theorem d_T_prefixOnes_1 : decode b_T_prefixOnes 1 = .ok (.getfield 32, 3) := by decide +kernel
theorem d_T_prefixOnes_4 : decode b_T_prefixOnes 4 = .ok (.iconst 1, 1) := by decide +kernel
theorem d_T_prefixOnes_5 : decode b_T_prefixOnes 5 = .ok (.if_icmp .ne 11, 3) := by decide +kernel
theorem d_T_prefixOnes_8 : decode b_T_prefixOnes 8 = .ok (.aload_n 1, 1) := by decide +kernel
theorem d_T_prefixOnes_9 : decode b_T_prefixOnes 9 = .ok (.getfield 75, 3) := by decide +kernel
theorem d_T_prefixOnes_12 : decode b_T_prefixOnes 12 = .ok (.invokestatic 118, 3) := by decide +kernel
theorem d_T_prefixOnes_15 : decode b_T_prefixOnes 15 = .ok (.ireturn, 1) := by decide +kernel
theorem d_T_prefixOnes_16 : decode b_T_prefixOnes 16 = .ok (.aload_n 0, 1) := by decide +kernel
theorem d_T_prefixOnes_17 : decode b_T_prefixOnes 17 = .ok (.getfield 35, 3) := by decide +kernel
theorem d_T_prefixOnes_20 : decode b_T_prefixOnes 20 = .ok (.iconst 1, 1) := by decide +kernel
theorem d_T_prefixOnes_21 : decode b_T_prefixOnes 21 = .ok (.if_icmp .ne 13, 3) := by decide +kernel
theorem d_T_prefixOnes_24 : decode b_T_prefixOnes 24 = .ok (.aload_n 1, 1) := by decide +kernel
theorem d_T_prefixOnes_25 : decode b_T_prefixOnes 25 = .ok (.getfield 81, 3) := by decide +kernel
theorem d_T_prefixOnes_28 : decode b_T_prefixOnes 28 = .ok (.invokestatic 118, 3) := by decide +kernel
theorem d_T_prefixOnes_31 : decode b_T_prefixOnes 31 = .ok (.goto 4, 3) := by decide +kernel
theorem d_T_prefixOnes_34 : decode b_T_prefixOnes 34 = .ok (.iconst 0, 1) := by decide +kernel
theorem d_T_prefixOnes_35 : decode b_T_prefixOnes 35 = .ok (.ireturn, 1) := by decide +kernel
theorem d_JI_bitCount_0 : decode b_JI_bitCount 0 = .ok (.iload_n 0, 1) := by decide +kernel
theorem d_JI_bitCount_1 : decode b_JI_bitCount 1 = .ok (.iload_n 0, 1) := by decide +kernel
theorem d_JI_bitCount_2 : decode b_JI_bitCount 2 = .ok (.iconst 1, 1) := by decide +kernel
theorem d_JI_bitCount_3 : decode b_JI_bitCount 3 = .ok (.iushr, 1) := by decide +kernel
theorem d_JI_bitCount_4 : decode b_JI_bitCount 4 = .ok (.ldc_w 265, 3) := by decide +kernel
theorem d_JI_bitCount_7 : decode b_JI_bitCount 7 = .ok (.iand, 1) := by decide +kernel
theorem d_JI_bitCount_8 : decode b_JI_bitCount 8 = .ok (.isub, 1) := by decide +kernel
theorem d_JI_bitCount_9 : decode b_JI_bitCount 9 = .ok (.istore_n 0, 1) := by decide +kernel
theorem d_JI_bitCount_10 : decode b_JI_bitCount 10 = .ok (.iload_n 0, 1) := by decide +kernel
theorem d_JI_bitCount_11 : decode b_JI_bitCount 11 = .ok (.ldc_w 266, 3) := by decide +kernel
theorem d_JI_bitCount_14 : decode b_JI_bitCount 14 = .ok (.iand, 1) := by decide +kernel
theorem d_JI_bitCount_15 : decode b_JI_bitCount 15 = .ok (.iload_n 0, 1) := by decide +kernel
theorem d_JI_bitCount_16 : decode b_JI_bitCount 16 = .ok (.iconst 2, 1) := by decide +kernel
theorem d_JI_bitCount_17 : decode b_JI_bitCount 17 = .ok (.iushr, 1) := by decide +kernel
theorem d_JI_bitCount_18 : decode b_JI_bitCount 18 = .ok (.ldc_w 266, 3) := by decide +kernel
theorem d_JI_bitCount_21 : decode b_JI_bitCount 21 = .ok (.iand, 1) := by decide +kernel
theorem d_JI_bitCount_22 : decode b_JI_bitCount 22 = .ok (.iadd, 1) := by decide +kernel
theorem d_JI_bitCount_23 : decode b_JI_bitCount 23 = .ok (.istore_n 0, 1) := by decide +kernel
theorem d_JI_bitCount_24 : decode b_JI_bitCount 24 = .ok (.iload_n 0, 1) := by decide +kernel
theorem d_JI_bitCount_25 : decode b_JI_bitCount 25 = .ok (.iload_n 0, 1) := by decide +kernel
theorem d_JI_bitCount_26 : decode b_JI_bitCount 26 = .ok (.iconst 4, 1) := by decide +kernel
theorem d_JI_bitCount_27 : decode b_JI_bitCount 27 = .ok (.iushr, 1) := by decide +kernel
theorem d_JI_bitCount_28 : decode b_JI_bitCount 28 = .ok (.iadd, 1) := by decide +kernel
theorem d_JI_bitCount_29 : decode b_JI_bitCount 29 = .ok (.ldc_w 267, 3) := by decide +kernel
theorem d_JI_bitCount_32 : decode b_JI_bitCount 32 = .ok (.iand, 1) := by decide +kernel
theorem d_JI_bitCount_33 : decode b_JI_bitCount 33 = .ok (.istore_n 0, 1) := by decide +kernel
theorem d_JI_bitCount_34 : decode b_JI_bitCount 34 = .ok (.iload_n 0, 1) := by decide +kernel
theorem d_JI_bitCount_35 : decode b_JI_bitCount 35 = .ok (.iload_n 0, 1) := by decide +kernel
theorem d_JI_bitCount_36 : decode b_JI_bitCount 36 = .ok (.bipush 8, 2) := by decide +kernel
theorem d_JI_bitCount_38 : decode b_JI_bitCount 38 = .ok (.iushr, 1) := by decide +kernel
theorem d_JI_bitCount_39 : decode b_JI_bitCount 39 = .ok (.iadd, 1) := by decide +kernel
theorem d_JI_bitCount_40 : decode b_JI_bitCount 40 = .ok (.istore_n 0, 1) := by decide +kernel
theorem d_JI_bitCount_41 : decode b_JI_bitCount 41 = .ok (.iload_n 0, 1) := by decide +kernel
theorem d_JI_bitCount_42 : decode b_JI_bitCount 42 = .ok (.iload_n 0, 1) := by decide +kernel
theorem d_JI_bitCount_43 : decode b_JI_bitCount 43 = .ok (.bipush 16, 2) := by decide +kernel
theorem d_JI_bitCount_45 : decode b_JI_bitCount 45 = .ok (.iushr, 1) := by decide +kernel
theorem d_JI_bitCount_46 : decode b_JI_bitCount 46 = .ok (.iadd, 1) := by decide +kernel
theorem d_JI_bitCount_47 : decode b_JI_bitCount 47 = .ok (.istore_n 0, 1) := by decide +kernel
theorem d_JI_bitCount_48 : decode b_JI_bitCount 48 = .ok (.iload_n 0, 1) := by decide +kernel
theorem d_JI_bitCount_49 : decode b_JI_bitCount 49 = .ok (.bipush 63, 2) := by decide +kernel
theorem d_JI_bitCount_51 : decode b_JI_bitCount 51 = .ok (.iand, 1) := by decide +kernel
theorem d_JI_bitCount_52 : decode b_JI_bitCount 52 = .ok (.ireturn, 1) := by decide +kernel
theorem d_X_port_0 : decode b_X_port 0 = .ok (.aload_n 0, 1) := by decide +kernel
theorem d_X_port_1 : decode b_X_port 1 = .ok (.getfield 59, 3) := by decide +kernel
theorem d_X_port_4 : decode b_X_port 4 = .ok (.ireturn, 1) := by decide +kernel
theorem d_X_isDropped_0 : decode b_X_isDropped 0 = .ok (.aload_n 0, 1) := by decide +kernel
theorem d_X_isDropped_1 : decode b_X_isDropped 1 = .ok (.getfield 62, 3) := by decide +kernel
theorem d_X_isDropped_4 : decode b_X_isDropped 4 = .ok (.ireturn, 1) := by decide +kernel
theorem d_X_word_0 : decode b_X_word 0 = .ok (.aload_n 0, 1) := by decide +kernel
theorem d_X_word_1 : decode b_X_word 1 = .ok (.getfield 19, 3) := by decide +kernel
theorem d_X_word_4 : decode b_X_word 4 = .ok (.iload_n 1, 1) := by decide +kernel
theorem d_X_word_5 : decode b_X_word 5 = .ok (.iload_n 2, 1) := by decide +kernel
theorem d_X_word_6 : decode b_X_word 6 = .ok (.invokevirtual 184, 3) := by decide +kernel
theorem d_X_word_9 : decode b_X_word 9 = .ok (.ireturn, 1) := by decide +kernel
theorem d_C_read_0 : decode b_C_read 0 = .ok (.iload_n 1, 1) := by decide +kernel
theorem d_C_read_1 : decode b_C_read 1 = .ok (.iload_n 2, 1) := by decide +kernel
theorem d_C_read_2 : decode b_C_read 2 = .ok (.invokestatic 25, 3) := by decide +kernel
theorem d_C_read_5 : decode b_C_read 5 = .ok (.ifCond .eq 17, 3) := by decide +kernel
theorem d_C_read_8 : decode b_C_read 8 = .ok (.aload_n 0, 1) := by decide +kernel
theorem d_C_read_9 : decode b_C_read 9 = .ok (.getfield 9, 3) := by decide +kernel
theorem d_C_read_12 : decode b_C_read 12 = .ok (.iload_n 1, 1) := by decide +kernel
theorem d_C_read_13 : decode b_C_read 13 = .ok (.bipush 16, 2) := by decide +kernel
theorem d_C_read_15 : decode b_C_read 15 = .ok (.imul, 1) := by decide +kernel
theorem d_C_read_16 : decode b_C_read 16 = .ok (.iload_n 2, 1) := by decide +kernel
theorem d_C_read_17 : decode b_C_read 17 = .ok (.iadd, 1) := by decide +kernel
theorem d_C_read_18 : decode b_C_read 18 = .ok (.iaload, 1) := by decide +kernel
theorem d_C_read_19 : decode b_C_read 19 = .ok (.goto 4, 3) := by decide +kernel
theorem d_C_read_22 : decode b_C_read 22 = .ok (.iconst 0, 1) := by decide +kernel
theorem d_C_read_23 : decode b_C_read 23 = .ok (.ireturn, 1) := by decide +kernel
theorem d_C_isWord_0 : decode b_C_isWord 0 = .ok (.iload_n 0, 1) := by decide +kernel
theorem d_C_isWord_1 : decode b_C_isWord 1 = .ok (.invokestatic 21, 3) := by decide +kernel
theorem d_C_isWord_4 : decode b_C_isWord 4 = .ok (.ifCond .eq 17, 3) := by decide +kernel
theorem d_C_isWord_7 : decode b_C_isWord 7 = .ok (.iload_n 1, 1) := by decide +kernel
theorem d_C_isWord_8 : decode b_C_isWord 8 = .ok (.ifCond .lt 13, 3) := by decide +kernel
theorem d_C_isWord_11 : decode b_C_isWord 11 = .ok (.iload_n 1, 1) := by decide +kernel
theorem d_C_isWord_12 : decode b_C_isWord 12 = .ok (.bipush 16, 2) := by decide +kernel
theorem d_C_isWord_14 : decode b_C_isWord 14 = .ok (.if_icmp .ge 7, 3) := by decide +kernel
theorem d_C_isWord_17 : decode b_C_isWord 17 = .ok (.iconst 1, 1) := by decide +kernel
theorem d_C_isWord_18 : decode b_C_isWord 18 = .ok (.goto 4, 3) := by decide +kernel
theorem d_C_isWord_21 : decode b_C_isWord 21 = .ok (.iconst 0, 1) := by decide +kernel
theorem d_C_isWord_22 : decode b_C_isWord 22 = .ok (.ireturn, 1) := by decide +kernel
theorem d_X_isArray_0 : decode b_X_isArray 0 = .ok (.iload_n 0, 1) := by decide +kernel
theorem d_X_isArray_1 : decode b_X_isArray 1 = .ok (.ifCond .lt 12, 3) := by decide +kernel
theorem d_X_isArray_4 : decode b_X_isArray 4 = .ok (.iload_n 0, 1) := by decide +kernel
theorem d_X_isArray_5 : decode b_X_isArray 5 = .ok (.iconst 4, 1) := by decide +kernel
theorem d_X_isArray_6 : decode b_X_isArray 6 = .ok (.if_icmp .ge 7, 3) := by decide +kernel
theorem d_X_isArray_9 : decode b_X_isArray 9 = .ok (.iconst 1, 1) := by decide +kernel
theorem d_X_isArray_10 : decode b_X_isArray 10 = .ok (.goto 4, 3) := by decide +kernel
theorem d_X_isArray_13 : decode b_X_isArray 13 = .ok (.iconst 0, 1) := by decide +kernel
theorem d_X_isArray_14 : decode b_X_isArray 14 = .ok (.ireturn, 1) := by decide +kernel
theorem d_X_entries_0 : decode b_X_entries 0 = .ok (.aload_n 0, 1) := by decide +kernel
theorem d_X_entries_1 : decode b_X_entries 1 = .ok (.iload_n 1, 1) := by decide +kernel
theorem d_X_entries_2 : decode b_X_entries 2 = .ok (.invokevirtual 149, 3) := by decide +kernel
theorem d_X_entries_5 : decode b_X_entries 5 = .ok (.ifCond .eq 15, 3) := by decide +kernel
theorem d_X_entries_8 : decode b_X_entries 8 = .ok (.aload_n 0, 1) := by decide +kernel
theorem d_X_entries_9 : decode b_X_entries 9 = .ok (.getfield 31, 3) := by decide +kernel
theorem d_X_entries_12 : decode b_X_entries 12 = .ok (.iload_n 1, 1) := by decide +kernel
theorem d_X_entries_13 : decode b_X_entries 13 = .ok (.aaload, 1) := by decide +kernel
theorem d_X_entries_14 : decode b_X_entries 14 = .ok (.getfield 187, 3) := by decide +kernel
theorem d_X_entries_17 : decode b_X_entries 17 = .ok (.goto 4, 3) := by decide +kernel
theorem d_X_entries_20 : decode b_X_entries 20 = .ok (.iconst (-1), 1) := by decide +kernel
theorem d_X_entries_21 : decode b_X_entries 21 = .ok (.ireturn, 1) := by decide +kernel
theorem d_X_field_0 : decode b_X_field 0 = .ok (.iload_n 1, 1) := by decide +kernel
theorem d_X_field_1 : decode b_X_field 1 = .ok (.iconst 1, 1) := by decide +kernel
theorem d_X_field_2 : decode b_X_field 2 = .ok (.if_icmp .lt 9, 3) := by decide +kernel
theorem d_X_field_5 : decode b_X_field 5 = .ok (.iload_n 1, 1) := by decide +kernel
theorem d_X_field_6 : decode b_X_field 6 = .ok (.bipush 32, 2) := by decide +kernel
theorem d_X_field_8 : decode b_X_field 8 = .ok (.if_icmp .le 13, 3) := by decide +kernel
theorem d_X_field_11 : decode b_X_field 11 = .ok (.new 66, 3) := by decide +kernel
theorem d_X_field_14 : decode b_X_field 14 = .ok (.dup, 1) := by decide +kernel
theorem d_X_field_15 : decode b_X_field 15 = .ok (.ldc 68, 2) := by decide +kernel
theorem d_X_field_17 : decode b_X_field 17 = .ok (.invokespecial 70, 3) := by decide +kernel
theorem d_X_field_20 : decode b_X_field 20 = .ok (.athrow, 1) := by decide +kernel
theorem d_X_field_21 : decode b_X_field 21 = .ok (.aload_n 0, 1) := by decide +kernel
theorem d_X_field_22 : decode b_X_field 22 = .ok (.getfield 10, 3) := by decide +kernel
theorem d_X_field_25 : decode b_X_field 25 = .ok (.invokevirtual 73, 3) := by decide +kernel
theorem d_X_field_28 : decode b_X_field 28 = .ok (.ifCond .eq 13, 3) := by decide +kernel
theorem d_X_field_31 : decode b_X_field 31 = .ok (.new 77, 3) := by decide +kernel
theorem d_X_field_34 : decode b_X_field 34 = .ok (.dup, 1) := by decide +kernel
theorem d_X_field_35 : decode b_X_field 35 = .ok (.ldc 79, 2) := by decide +kernel
theorem d_X_field_37 : decode b_X_field 37 = .ok (.invokespecial 81, 3) := by decide +kernel
theorem d_X_field_40 : decode b_X_field 40 = .ok (.athrow, 1) := by decide +kernel
theorem d_X_field_41 : decode b_X_field 41 = .ok (.aload_n 0, 1) := by decide +kernel
theorem d_X_field_42 : decode b_X_field 42 = .ok (.getfield 10, 3) := by decide +kernel
theorem d_X_field_45 : decode b_X_field 45 = .ok (.iload_n 1, 1) := by decide +kernel
theorem d_X_field_46 : decode b_X_field 46 = .ok (.invokevirtual 82, 3) := by decide +kernel
theorem d_X_field_49 : decode b_X_field 49 = .ok (.ireturn, 1) := by decide +kernel
theorem d_F_isFull_0 : decode b_F_isFull 0 = .ok (.aload_n 0, 1) := by decide +kernel
theorem d_F_isFull_1 : decode b_F_isFull 1 = .ok (.getfield 18, 3) := by decide +kernel
theorem d_F_isFull_4 : decode b_F_isFull 4 = .ok (.bipush 16, 2) := by decide +kernel
theorem d_F_isFull_6 : decode b_F_isFull 6 = .ok (.if_icmp .lt 7, 3) := by decide +kernel
theorem d_F_isFull_9 : decode b_F_isFull 9 = .ok (.iconst 1, 1) := by decide +kernel
theorem d_F_isFull_10 : decode b_F_isFull 10 = .ok (.goto 4, 3) := by decide +kernel
theorem d_F_isFull_13 : decode b_F_isFull 13 = .ok (.iconst 0, 1) := by decide +kernel
theorem d_F_isFull_14 : decode b_F_isFull 14 = .ok (.ireturn, 1) := by decide +kernel
theorem d_F_add_0 : decode b_F_add 0 = .ok (.aload_n 0, 1) := by decide +kernel
theorem d_F_add_1 : decode b_F_add 1 = .ok (.invokevirtual 22, 3) := by decide +kernel
theorem d_F_add_4 : decode b_F_add 4 = .ok (.ifCond .eq 5, 3) := by decide +kernel
theorem d_F_add_7 : decode b_F_add 7 = .ok (.iconst (-1), 1) := by decide +kernel
theorem d_F_add_8 : decode b_F_add 8 = .ok (.ireturn, 1) := by decide +kernel
theorem d_F_add_9 : decode b_F_add 9 = .ok (.aload_n 0, 1) := by decide +kernel
theorem d_F_add_10 : decode b_F_add 10 = .ok (.getfield 18, 3) := by decide +kernel
theorem d_F_add_13 : decode b_F_add 13 = .ok (.istore_n 2, 1) := by decide +kernel
theorem d_F_add_14 : decode b_F_add 14 = .ok (.aload_n 0, 1) := by decide +kernel
theorem d_F_add_15 : decode b_F_add 15 = .ok (.getfield 9, 3) := by decide +kernel
theorem d_F_add_18 : decode b_F_add 18 = .ok (.iload_n 2, 1) := by decide +kernel
theorem d_F_add_19 : decode b_F_add 19 = .ok (.iconst (-1), 1) := by decide +kernel
theorem d_F_add_20 : decode b_F_add 20 = .ok (.bipush 32, 2) := by decide +kernel
theorem d_F_add_22 : decode b_F_add 22 = .ok (.iload_n 1, 1) := by decide +kernel
theorem d_F_add_23 : decode b_F_add 23 = .ok (.isub, 1) := by decide +kernel
theorem d_F_add_24 : decode b_F_add 24 = .ok (.iushr, 1) := by decide +kernel
theorem d_F_add_25 : decode b_F_add 25 = .ok (.iastore, 1) := by decide +kernel
theorem d_F_add_26 : decode b_F_add 26 = .ok (.aload_n 0, 1) := by decide +kernel
theorem d_F_add_27 : decode b_F_add 27 = .ok (.getfield 15, 3) := by decide +kernel
theorem d_F_add_30 : decode b_F_add 30 = .ok (.iload_n 2, 1) := by decide +kernel
theorem d_F_add_31 : decode b_F_add 31 = .ok (.iconst 0, 1) := by decide +kernel
theorem d_F_add_32 : decode b_F_add 32 = .ok (.iastore, 1) := by decide +kernel
theorem d_F_add_33 : decode b_F_add 33 = .ok (.aload_n 0, 1) := by decide +kernel
theorem d_F_add_34 : decode b_F_add 34 = .ok (.dup, 1) := by decide +kernel
theorem d_F_add_35 : decode b_F_add 35 = .ok (.getfield 18, 3) := by decide +kernel
theorem d_F_add_38 : decode b_F_add 38 = .ok (.iconst 1, 1) := by decide +kernel
theorem d_F_add_39 : decode b_F_add 39 = .ok (.iadd, 1) := by decide +kernel
theorem d_F_add_40 : decode b_F_add 40 = .ok (.putfield 18, 3) := by decide +kernel
theorem d_F_add_43 : decode b_F_add 43 = .ok (.iload_n 2, 1) := by decide +kernel
theorem d_F_add_44 : decode b_F_add 44 = .ok (.ireturn, 1) := by decide +kernel
theorem d_X_set_0 : decode b_X_set 0 = .ok (.aload_n 0, 1) := by decide +kernel
theorem d_X_set_1 : decode b_X_set 1 = .ok (.getfield 10, 3) := by decide +kernel
theorem d_X_set_4 : decode b_X_set 4 = .ok (.iload_n 1, 1) := by decide +kernel
theorem d_X_set_5 : decode b_X_set 5 = .ok (.invokevirtual 86, 3) := by decide +kernel
theorem d_X_set_8 : decode b_X_set 8 = .ok (.ifCond .ne 13, 3) := by decide +kernel
theorem d_X_set_11 : decode b_X_set 11 = .ok (.new 90, 3) := by decide +kernel
theorem d_X_set_14 : decode b_X_set 14 = .ok (.dup, 1) := by decide +kernel
theorem d_X_set_15 : decode b_X_set 15 = .ok (.ldc 92, 2) := by decide +kernel
theorem d_X_set_17 : decode b_X_set 17 = .ok (.invokespecial 94, 3) := by decide +kernel
theorem d_X_set_20 : decode b_X_set 20 = .ok (.athrow, 1) := by decide +kernel
theorem d_X_set_21 : decode b_X_set 21 = .ok (.aload_n 0, 1) := by decide +kernel
theorem d_X_set_22 : decode b_X_set 22 = .ok (.getfield 10, 3) := by decide +kernel
theorem d_X_set_25 : decode b_X_set 25 = .ok (.iload_n 1, 1) := by decide +kernel
theorem d_X_set_26 : decode b_X_set 26 = .ok (.iload_n 2, 1) := by decide +kernel
theorem d_X_set_27 : decode b_X_set 27 = .ok (.invokevirtual 95, 3) := by decide +kernel
theorem d_X_set_30 : decode b_X_set 30 = .ok (.return_, 1) := by decide +kernel
theorem d_F_write_0 : decode b_F_write 0 = .ok (.aload_n 0, 1) := by decide +kernel
theorem d_F_write_1 : decode b_F_write 1 = .ok (.iload_n 1, 1) := by decide +kernel
theorem d_F_write_2 : decode b_F_write 2 = .ok (.invokevirtual 26, 3) := by decide +kernel
theorem d_F_write_5 : decode b_F_write 5 = .ok (.ifCond .eq 17, 3) := by decide +kernel
theorem d_F_write_8 : decode b_F_write 8 = .ok (.aload_n 0, 1) := by decide +kernel
theorem d_F_write_9 : decode b_F_write 9 = .ok (.getfield 15, 3) := by decide +kernel
theorem d_F_write_12 : decode b_F_write 12 = .ok (.iload_n 1, 1) := by decide +kernel
theorem d_F_write_13 : decode b_F_write 13 = .ok (.iload_n 2, 1) := by decide +kernel
theorem d_F_write_14 : decode b_F_write 14 = .ok (.aload_n 0, 1) := by decide +kernel
theorem d_F_write_15 : decode b_F_write 15 = .ok (.getfield 9, 3) := by decide +kernel
theorem d_F_write_18 : decode b_F_write 18 = .ok (.iload_n 1, 1) := by decide +kernel
theorem d_F_write_19 : decode b_F_write 19 = .ok (.iaload, 1) := by decide +kernel
theorem d_F_write_20 : decode b_F_write 20 = .ok (.iand, 1) := by decide +kernel
theorem d_F_write_21 : decode b_F_write 21 = .ok (.iastore, 1) := by decide +kernel
theorem d_F_write_22 : decode b_F_write 22 = .ok (.return_, 1) := by decide +kernel
theorem d_X_action_0 : decode b_X_action 0 = .ok (.aload_n 0, 1) := by decide +kernel
theorem d_X_action_1 : decode b_X_action 1 = .ok (.getfield 48, 3) := by decide +kernel
theorem d_X_action_4 : decode b_X_action 4 = .ok (.bipush 16, 2) := by decide +kernel
theorem d_X_action_6 : decode b_X_action 6 = .ok (.if_icmp .lt 13, 3) := by decide +kernel
theorem d_X_action_9 : decode b_X_action 9 = .ok (.new 77, 3) := by decide +kernel
theorem d_X_action_12 : decode b_X_action 12 = .ok (.dup, 1) := by decide +kernel
theorem d_X_action_13 : decode b_X_action 13 = .ok (.ldc 102, 2) := by decide +kernel
theorem d_X_action_15 : decode b_X_action 15 = .ok (.invokespecial 81, 3) := by decide +kernel
theorem d_X_action_18 : decode b_X_action 18 = .ok (.athrow, 1) := by decide +kernel
theorem d_X_action_19 : decode b_X_action 19 = .ok (.aload_n 0, 1) := by decide +kernel
theorem d_X_action_20 : decode b_X_action 20 = .ok (.getfield 48, 3) := by decide +kernel
theorem d_X_action_23 : decode b_X_action 23 = .ok (.istore_n 1, 1) := by decide +kernel
theorem d_X_action_24 : decode b_X_action 24 = .ok (.aload_n 0, 1) := by decide +kernel
theorem d_X_action_25 : decode b_X_action 25 = .ok (.getfield 25, 3) := by decide +kernel
theorem d_X_action_28 : decode b_X_action 28 = .ok (.iload_n 1, 1) := by decide +kernel
theorem d_X_action_29 : decode b_X_action 29 = .ok (.aaload, 1) := by decide +kernel
theorem d_X_action_30 : decode b_X_action 30 = .ok (.invokevirtual 104, 3) := by decide +kernel
theorem d_X_action_33 : decode b_X_action 33 = .ok (.aload_n 0, 1) := by decide +kernel
theorem d_X_action_34 : decode b_X_action 34 = .ok (.dup, 1) := by decide +kernel
theorem d_X_action_35 : decode b_X_action 35 = .ok (.getfield 48, 3) := by decide +kernel
theorem d_X_action_38 : decode b_X_action 38 = .ok (.iconst 1, 1) := by decide +kernel
theorem d_X_action_39 : decode b_X_action 39 = .ok (.iadd, 1) := by decide +kernel
theorem d_X_action_40 : decode b_X_action 40 = .ok (.putfield 48, 3) := by decide +kernel
theorem d_X_action_43 : decode b_X_action 43 = .ok (.iload_n 1, 1) := by decide +kernel
theorem d_X_action_44 : decode b_X_action 44 = .ok (.ireturn, 1) := by decide +kernel
theorem d_A_forget_0 : decode b_A_forget 0 = .ok (.aload_n 0, 1) := by decide +kernel
theorem d_A_forget_1 : decode b_A_forget 1 = .ok (.iconst 0, 1) := by decide +kernel
theorem d_A_forget_2 : decode b_A_forget 2 = .ok (.putfield 18, 3) := by decide +kernel
theorem d_A_forget_5 : decode b_A_forget 5 = .ok (.return_, 1) := by decide +kernel
theorem d_X_doing_0 : decode b_X_doing 0 = .ok (.iload_n 2, 1) := by decide +kernel
theorem d_X_doing_1 : decode b_X_doing 1 = .ok (.ifCond .lt 9, 3) := by decide +kernel
theorem d_X_doing_4 : decode b_X_doing 4 = .ok (.iload_n 2, 1) := by decide +kernel
theorem d_X_doing_5 : decode b_X_doing 5 = .ok (.bipush 8, 2) := by decide +kernel
theorem d_X_doing_7 : decode b_X_doing 7 = .ok (.if_icmp .le 13, 3) := by decide +kernel
theorem d_X_doing_10 : decode b_X_doing 10 = .ok (.new 66, 3) := by decide +kernel
theorem d_X_doing_13 : decode b_X_doing 13 = .ok (.dup, 1) := by decide +kernel
theorem d_X_doing_14 : decode b_X_doing 14 = .ok (.ldc 105, 2) := by decide +kernel
theorem d_X_doing_16 : decode b_X_doing 16 = .ok (.invokespecial 70, 3) := by decide +kernel
theorem d_X_doing_19 : decode b_X_doing 19 = .ok (.athrow, 1) := by decide +kernel
theorem d_X_doing_20 : decode b_X_doing 20 = .ok (.aload_n 0, 1) := by decide +kernel
theorem d_X_doing_21 : decode b_X_doing 21 = .ok (.iload_n 1, 1) := by decide +kernel
theorem d_X_doing_22 : decode b_X_doing 22 = .ok (.invokevirtual 107, 3) := by decide +kernel
theorem d_X_doing_25 : decode b_X_doing 25 = .ok (.ifCond .eq 16, 3) := by decide +kernel
theorem d_X_doing_28 : decode b_X_doing 28 = .ok (.aload_n 0, 1) := by decide +kernel
theorem d_X_doing_29 : decode b_X_doing 29 = .ok (.iload_n 2, 1) := by decide +kernel
theorem d_X_doing_30 : decode b_X_doing 30 = .ok (.iload_n 3, 1) := by decide +kernel
theorem d_X_doing_31 : decode b_X_doing 31 = .ok (.iload 4, 2) := by decide +kernel
theorem d_X_doing_33 : decode b_X_doing 33 = .ok (.iload 5, 2) := by decide +kernel
theorem d_X_doing_35 : decode b_X_doing 35 = .ok (.invokevirtual 110, 3) := by decide +kernel
theorem d_X_doing_38 : decode b_X_doing 38 = .ok (.ifCond .ne 13, 3) := by decide +kernel
theorem d_X_doing_41 : decode b_X_doing 41 = .ok (.new 90, 3) := by decide +kernel
theorem d_X_doing_44 : decode b_X_doing 44 = .ok (.dup, 1) := by decide +kernel
theorem d_X_doing_45 : decode b_X_doing 45 = .ok (.ldc 114, 2) := by decide +kernel
theorem d_X_doing_47 : decode b_X_doing 47 = .ok (.invokespecial 94, 3) := by decide +kernel
theorem d_X_doing_50 : decode b_X_doing 50 = .ok (.athrow, 1) := by decide +kernel
theorem d_X_doing_51 : decode b_X_doing 51 = .ok (.aload_n 0, 1) := by decide +kernel
theorem d_X_doing_52 : decode b_X_doing 52 = .ok (.getfield 25, 3) := by decide +kernel
theorem d_X_doing_55 : decode b_X_doing 55 = .ok (.iload_n 1, 1) := by decide +kernel
theorem d_X_doing_56 : decode b_X_doing 56 = .ok (.aaload, 1) := by decide +kernel
theorem d_X_doing_57 : decode b_X_doing 57 = .ok (.invokevirtual 116, 3) := by decide +kernel
theorem d_X_doing_60 : decode b_X_doing 60 = .ok (.ifCond .eq 13, 3) := by decide +kernel
theorem d_X_doing_63 : decode b_X_doing 63 = .ok (.new 77, 3) := by decide +kernel
theorem d_X_doing_66 : decode b_X_doing 66 = .ok (.dup, 1) := by decide +kernel
theorem d_X_doing_67 : decode b_X_doing 67 = .ok (.ldc 117, 2) := by decide +kernel
theorem d_X_doing_69 : decode b_X_doing 69 = .ok (.invokespecial 81, 3) := by decide +kernel
theorem d_X_doing_72 : decode b_X_doing 72 = .ok (.athrow, 1) := by decide +kernel
theorem d_X_doing_73 : decode b_X_doing 73 = .ok (.aload_n 0, 1) := by decide +kernel
theorem d_X_doing_74 : decode b_X_doing 74 = .ok (.getfield 25, 3) := by decide +kernel
theorem d_X_doing_77 : decode b_X_doing 77 = .ok (.iload_n 1, 1) := by decide +kernel
theorem d_X_doing_78 : decode b_X_doing 78 = .ok (.aaload, 1) := by decide +kernel
theorem d_X_doing_79 : decode b_X_doing 79 = .ok (.iload_n 2, 1) := by decide +kernel
theorem d_X_doing_80 : decode b_X_doing 80 = .ok (.iload_n 3, 1) := by decide +kernel
theorem d_X_doing_81 : decode b_X_doing 81 = .ok (.iload 4, 2) := by decide +kernel
theorem d_X_doing_83 : decode b_X_doing 83 = .ok (.iload 5, 2) := by decide +kernel
theorem d_X_doing_85 : decode b_X_doing 85 = .ok (.invokevirtual 119, 3) := by decide +kernel
theorem d_X_doing_88 : decode b_X_doing 88 = .ok (.return_, 1) := by decide +kernel
theorem d_X_isAction_0 : decode b_X_isAction 0 = .ok (.iload_n 1, 1) := by decide +kernel
theorem d_X_isAction_1 : decode b_X_isAction 1 = .ok (.ifCond .lt 15, 3) := by decide +kernel
theorem d_X_isAction_4 : decode b_X_isAction 4 = .ok (.iload_n 1, 1) := by decide +kernel
theorem d_X_isAction_5 : decode b_X_isAction 5 = .ok (.aload_n 0, 1) := by decide +kernel
theorem d_X_isAction_6 : decode b_X_isAction 6 = .ok (.getfield 48, 3) := by decide +kernel
theorem d_X_isAction_9 : decode b_X_isAction 9 = .ok (.if_icmp .ge 7, 3) := by decide +kernel
theorem d_X_isAction_12 : decode b_X_isAction 12 = .ok (.iconst 1, 1) := by decide +kernel
theorem d_X_isAction_13 : decode b_X_isAction 13 = .ok (.goto 4, 3) := by decide +kernel
theorem d_X_isAction_16 : decode b_X_isAction 16 = .ok (.iconst 0, 1) := by decide +kernel
theorem d_X_isAction_17 : decode b_X_isAction 17 = .ok (.ireturn, 1) := by decide +kernel
theorem d_X_areOperands_0 : decode b_X_areOperands 0 = .ok (.iload_n 1, 1) := by decide +kernel
theorem d_X_areOperands_1 : decode b_X_areOperands 1 = .ok (.tableswitch 177 0 8 #[51, 60, 60, 88, 177, 112, 177, 117, 141], 51) := by decide +kernel
theorem d_X_areOperands_52 : decode b_X_areOperands 52 = .ok (.aload_n 0, 1) := by decide +kernel
theorem d_X_areOperands_53 : decode b_X_areOperands 53 = .ok (.getfield 10, 3) := by decide +kernel
theorem d_X_areOperands_56 : decode b_X_areOperands 56 = .ok (.iload_n 2, 1) := by decide +kernel
theorem d_X_areOperands_57 : decode b_X_areOperands 57 = .ok (.invokevirtual 86, 3) := by decide +kernel
theorem d_X_areOperands_60 : decode b_X_areOperands 60 = .ok (.ireturn, 1) := by decide +kernel
theorem d_X_areOperands_61 : decode b_X_areOperands 61 = .ok (.aload_n 0, 1) := by decide +kernel
theorem d_X_areOperands_62 : decode b_X_areOperands 62 = .ok (.getfield 10, 3) := by decide +kernel
theorem d_X_areOperands_65 : decode b_X_areOperands 65 = .ok (.iload_n 2, 1) := by decide +kernel
theorem d_X_areOperands_66 : decode b_X_areOperands 66 = .ok (.invokevirtual 86, 3) := by decide +kernel
theorem d_X_areOperands_69 : decode b_X_areOperands 69 = .ok (.ifCond .eq 18, 3) := by decide +kernel
theorem d_X_areOperands_72 : decode b_X_areOperands 72 = .ok (.aload_n 0, 1) := by decide +kernel
theorem d_X_areOperands_73 : decode b_X_areOperands 73 = .ok (.getfield 10, 3) := by decide +kernel
theorem d_X_areOperands_76 : decode b_X_areOperands 76 = .ok (.iload_n 3, 1) := by decide +kernel
theorem d_X_areOperands_77 : decode b_X_areOperands 77 = .ok (.invokevirtual 86, 3) := by decide +kernel
theorem d_X_areOperands_80 : decode b_X_areOperands 80 = .ok (.ifCond .eq 7, 3) := by decide +kernel
theorem d_X_areOperands_83 : decode b_X_areOperands 83 = .ok (.iconst 1, 1) := by decide +kernel
theorem d_X_areOperands_84 : decode b_X_areOperands 84 = .ok (.goto 4, 3) := by decide +kernel
theorem d_X_areOperands_87 : decode b_X_areOperands 87 = .ok (.iconst 0, 1) := by decide +kernel
theorem d_X_areOperands_88 : decode b_X_areOperands 88 = .ok (.ireturn, 1) := by decide +kernel
theorem d_X_areOperands_89 : decode b_X_areOperands 89 = .ok (.aload_n 0, 1) := by decide +kernel
theorem d_X_areOperands_90 : decode b_X_areOperands 90 = .ok (.getfield 10, 3) := by decide +kernel
theorem d_X_areOperands_93 : decode b_X_areOperands 93 = .ok (.iload_n 2, 1) := by decide +kernel
theorem d_X_areOperands_94 : decode b_X_areOperands 94 = .ok (.invokevirtual 86, 3) := by decide +kernel
theorem d_X_areOperands_97 : decode b_X_areOperands 97 = .ok (.ifCond .eq 14, 3) := by decide +kernel
theorem d_X_areOperands_100 : decode b_X_areOperands 100 = .ok (.iload_n 3, 1) := by decide +kernel
theorem d_X_areOperands_101 : decode b_X_areOperands 101 = .ok (.invokestatic 190, 3) := by decide +kernel
theorem d_X_areOperands_104 : decode b_X_areOperands 104 = .ok (.ifCond .eq 7, 3) := by decide +kernel
theorem d_X_areOperands_107 : decode b_X_areOperands 107 = .ok (.iconst 1, 1) := by decide +kernel
theorem d_X_areOperands_108 : decode b_X_areOperands 108 = .ok (.goto 4, 3) := by decide +kernel
theorem d_X_areOperands_111 : decode b_X_areOperands 111 = .ok (.iconst 0, 1) := by decide +kernel
theorem d_X_areOperands_112 : decode b_X_areOperands 112 = .ok (.ireturn, 1) := by decide +kernel
theorem d_X_areOperands_113 : decode b_X_areOperands 113 = .ok (.iload_n 3, 1) := by decide +kernel
theorem d_X_areOperands_114 : decode b_X_areOperands 114 = .ok (.invokestatic 190, 3) := by decide +kernel
theorem d_X_areOperands_117 : decode b_X_areOperands 117 = .ok (.ireturn, 1) := by decide +kernel
theorem d_X_areOperands_118 : decode b_X_areOperands 118 = .ok (.iload_n 2, 1) := by decide +kernel
theorem d_X_areOperands_119 : decode b_X_areOperands 119 = .ok (.invokestatic 193, 3) := by decide +kernel
theorem d_X_areOperands_122 : decode b_X_areOperands 122 = .ok (.ifCond .eq 18, 3) := by decide +kernel
theorem d_X_areOperands_125 : decode b_X_areOperands 125 = .ok (.aload_n 0, 1) := by decide +kernel
theorem d_X_areOperands_126 : decode b_X_areOperands 126 = .ok (.getfield 10, 3) := by decide +kernel
theorem d_X_areOperands_129 : decode b_X_areOperands 129 = .ok (.iload_n 3, 1) := by decide +kernel
theorem d_X_areOperands_130 : decode b_X_areOperands 130 = .ok (.invokevirtual 86, 3) := by decide +kernel
theorem d_X_areOperands_133 : decode b_X_areOperands 133 = .ok (.ifCond .eq 7, 3) := by decide +kernel
theorem d_X_areOperands_136 : decode b_X_areOperands 136 = .ok (.iconst 1, 1) := by decide +kernel
theorem d_X_areOperands_137 : decode b_X_areOperands 137 = .ok (.goto 4, 3) := by decide +kernel
theorem d_X_areOperands_140 : decode b_X_areOperands 140 = .ok (.iconst 0, 1) := by decide +kernel
theorem d_X_areOperands_141 : decode b_X_areOperands 141 = .ok (.ireturn, 1) := by decide +kernel
theorem d_X_areOperands_142 : decode b_X_areOperands 142 = .ok (.aload_n 0, 1) := by decide +kernel
theorem d_X_areOperands_143 : decode b_X_areOperands 143 = .ok (.getfield 10, 3) := by decide +kernel
theorem d_X_areOperands_146 : decode b_X_areOperands 146 = .ok (.iload_n 2, 1) := by decide +kernel
theorem d_X_areOperands_147 : decode b_X_areOperands 147 = .ok (.invokevirtual 86, 3) := by decide +kernel
theorem d_X_areOperands_150 : decode b_X_areOperands 150 = .ok (.ifCond .eq 26, 3) := by decide +kernel
theorem d_X_areOperands_153 : decode b_X_areOperands 153 = .ok (.aload_n 0, 1) := by decide +kernel
theorem d_X_areOperands_154 : decode b_X_areOperands 154 = .ok (.getfield 10, 3) := by decide +kernel
theorem d_X_areOperands_157 : decode b_X_areOperands 157 = .ok (.iload_n 3, 1) := by decide +kernel
theorem d_X_areOperands_158 : decode b_X_areOperands 158 = .ok (.invokevirtual 86, 3) := by decide +kernel
theorem d_X_areOperands_161 : decode b_X_areOperands 161 = .ok (.ifCond .eq 15, 3) := by decide +kernel
theorem d_X_areOperands_164 : decode b_X_areOperands 164 = .ok (.iload 4, 2) := by decide +kernel
theorem d_X_areOperands_166 : decode b_X_areOperands 166 = .ok (.invokestatic 193, 3) := by decide +kernel
theorem d_X_areOperands_169 : decode b_X_areOperands 169 = .ok (.ifCond .eq 7, 3) := by decide +kernel
theorem d_X_areOperands_172 : decode b_X_areOperands 172 = .ok (.iconst 1, 1) := by decide +kernel
theorem d_X_areOperands_173 : decode b_X_areOperands 173 = .ok (.goto 4, 3) := by decide +kernel
theorem d_X_areOperands_176 : decode b_X_areOperands 176 = .ok (.iconst 0, 1) := by decide +kernel
theorem d_X_areOperands_177 : decode b_X_areOperands 177 = .ok (.ireturn, 1) := by decide +kernel
theorem d_X_areOperands_178 : decode b_X_areOperands 178 = .ok (.iconst 1, 1) := by decide +kernel
theorem d_X_areOperands_179 : decode b_X_areOperands 179 = .ok (.ireturn, 1) := by decide +kernel
theorem d_X_isDatum_0 : decode b_X_isDatum 0 = .ok (.iload_n 0, 1) := by decide +kernel
theorem d_X_isDatum_1 : decode b_X_isDatum 1 = .ok (.ifCond .lt 12, 3) := by decide +kernel
theorem d_X_isDatum_4 : decode b_X_isDatum 4 = .ok (.iload_n 0, 1) := by decide +kernel
theorem d_X_isDatum_5 : decode b_X_isDatum 5 = .ok (.iconst 2, 1) := by decide +kernel
theorem d_X_isDatum_6 : decode b_X_isDatum 6 = .ok (.if_icmp .ge 7, 3) := by decide +kernel
theorem d_X_isDatum_9 : decode b_X_isDatum 9 = .ok (.iconst 1, 1) := by decide +kernel
theorem d_X_isDatum_10 : decode b_X_isDatum 10 = .ok (.goto 4, 3) := by decide +kernel
theorem d_X_isDatum_13 : decode b_X_isDatum 13 = .ok (.iconst 0, 1) := by decide +kernel
theorem d_X_isDatum_14 : decode b_X_isDatum 14 = .ok (.ireturn, 1) := by decide +kernel
theorem d_A_isFull_0 : decode b_A_isFull 0 = .ok (.aload_n 0, 1) := by decide +kernel
theorem d_A_isFull_1 : decode b_A_isFull 1 = .ok (.getfield 18, 3) := by decide +kernel
theorem d_A_isFull_4 : decode b_A_isFull 4 = .ok (.iconst 4, 1) := by decide +kernel
theorem d_A_isFull_5 : decode b_A_isFull 5 = .ok (.if_icmp .lt 7, 3) := by decide +kernel
theorem d_A_isFull_8 : decode b_A_isFull 8 = .ok (.iconst 1, 1) := by decide +kernel
theorem d_A_isFull_9 : decode b_A_isFull 9 = .ok (.goto 4, 3) := by decide +kernel
theorem d_A_isFull_12 : decode b_A_isFull 12 = .ok (.iconst 0, 1) := by decide +kernel
theorem d_A_isFull_13 : decode b_A_isFull 13 = .ok (.ireturn, 1) := by decide +kernel
theorem d_A_add_0 : decode b_A_add 0 = .ok (.aload_n 0, 1) := by decide +kernel
theorem d_A_add_1 : decode b_A_add 1 = .ok (.invokevirtual 22, 3) := by decide +kernel
theorem d_A_add_4 : decode b_A_add 4 = .ok (.ifCond .eq 4, 3) := by decide +kernel
theorem d_A_add_7 : decode b_A_add 7 = .ok (.return_, 1) := by decide +kernel
theorem d_A_add_8 : decode b_A_add 8 = .ok (.aload_n 0, 1) := by decide +kernel
theorem d_A_add_9 : decode b_A_add 9 = .ok (.getfield 11, 3) := by decide +kernel
theorem d_A_add_12 : decode b_A_add 12 = .ok (.aload_n 0, 1) := by decide +kernel
theorem d_A_add_13 : decode b_A_add 13 = .ok (.getfield 18, 3) := by decide +kernel
theorem d_A_add_16 : decode b_A_add 16 = .ok (.aaload, 1) := by decide +kernel
theorem d_A_add_17 : decode b_A_add 17 = .ok (.astore 5, 2) := by decide +kernel
theorem d_A_add_19 : decode b_A_add 19 = .ok (.aload 5, 2) := by decide +kernel
theorem d_A_add_21 : decode b_A_add 21 = .ok (.iload_n 1, 1) := by decide +kernel
theorem d_A_add_22 : decode b_A_add 22 = .ok (.putfield 26, 3) := by decide +kernel
theorem d_A_add_25 : decode b_A_add 25 = .ok (.aload 5, 2) := by decide +kernel
theorem d_A_add_27 : decode b_A_add 27 = .ok (.iload_n 2, 1) := by decide +kernel
theorem d_A_add_28 : decode b_A_add 28 = .ok (.putfield 29, 3) := by decide +kernel
theorem d_A_add_31 : decode b_A_add 31 = .ok (.aload 5, 2) := by decide +kernel
theorem d_A_add_33 : decode b_A_add 33 = .ok (.iload_n 3, 1) := by decide +kernel
theorem d_A_add_34 : decode b_A_add 34 = .ok (.putfield 32, 3) := by decide +kernel
theorem d_A_add_37 : decode b_A_add 37 = .ok (.aload 5, 2) := by decide +kernel
theorem d_A_add_39 : decode b_A_add 39 = .ok (.iload 4, 2) := by decide +kernel
theorem d_A_add_41 : decode b_A_add 41 = .ok (.putfield 35, 3) := by decide +kernel
theorem d_A_add_44 : decode b_A_add 44 = .ok (.aload_n 0, 1) := by decide +kernel
theorem d_A_add_45 : decode b_A_add 45 = .ok (.dup, 1) := by decide +kernel
theorem d_A_add_46 : decode b_A_add 46 = .ok (.getfield 18, 3) := by decide +kernel
theorem d_A_add_49 : decode b_A_add 49 = .ok (.iconst 1, 1) := by decide +kernel
theorem d_A_add_50 : decode b_A_add 50 = .ok (.iadd, 1) := by decide +kernel
theorem d_A_add_51 : decode b_A_add 51 = .ok (.putfield 18, 3) := by decide +kernel
theorem d_A_add_54 : decode b_A_add 54 = .ok (.return_, 1) := by decide +kernel
theorem d_X_table_0 : decode b_X_table 0 = .ok (.aload_n 0, 1) := by decide +kernel
theorem d_X_table_1 : decode b_X_table 1 = .ok (.iload_n 1, 1) := by decide +kernel
theorem d_X_table_2 : decode b_X_table 2 = .ok (.iload_n 2, 1) := by decide +kernel
theorem d_X_table_3 : decode b_X_table 3 = .ok (.invokevirtual 121, 3) := by decide +kernel
theorem d_X_table_6 : decode b_X_table 6 = .ok (.ifCond .eq 14, 3) := by decide +kernel
theorem d_X_table_9 : decode b_X_table 9 = .ok (.aload_n 0, 1) := by decide +kernel
theorem d_X_table_10 : decode b_X_table 10 = .ok (.iload 4, 2) := by decide +kernel
theorem d_X_table_12 : decode b_X_table 12 = .ok (.iload 5, 2) := by decide +kernel
theorem d_X_table_14 : decode b_X_table 14 = .ok (.invokevirtual 125, 3) := by decide +kernel
theorem d_X_table_17 : decode b_X_table 17 = .ok (.ifCond .ne 13, 3) := by decide +kernel
theorem d_X_table_20 : decode b_X_table 20 = .ok (.new 90, 3) := by decide +kernel
theorem d_X_table_23 : decode b_X_table 23 = .ok (.dup, 1) := by decide +kernel
theorem d_X_table_24 : decode b_X_table 24 = .ok (.ldc 128, 2) := by decide +kernel
theorem d_X_table_26 : decode b_X_table 26 = .ok (.invokespecial 94, 3) := by decide +kernel
theorem d_X_table_29 : decode b_X_table 29 = .ok (.athrow, 1) := by decide +kernel
theorem d_X_table_30 : decode b_X_table 30 = .ok (.iload_n 3, 1) := by decide +kernel
theorem d_X_table_31 : decode b_X_table 31 = .ok (.iload_n 2, 1) := by decide +kernel
theorem d_X_table_32 : decode b_X_table 32 = .ok (.invokestatic 130, 3) := by decide +kernel
theorem d_X_table_35 : decode b_X_table 35 = .ok (.ifCond .ne 13, 3) := by decide +kernel
theorem d_X_table_38 : decode b_X_table 38 = .ok (.new 66, 3) := by decide +kernel
theorem d_X_table_41 : decode b_X_table 41 = .ok (.dup, 1) := by decide +kernel
theorem d_X_table_42 : decode b_X_table 42 = .ok (.ldc 133, 2) := by decide +kernel
theorem d_X_table_44 : decode b_X_table 44 = .ok (.invokespecial 70, 3) := by decide +kernel
theorem d_X_table_47 : decode b_X_table 47 = .ok (.athrow, 1) := by decide +kernel
theorem d_X_table_48 : decode b_X_table 48 = .ok (.aload_n 0, 1) := by decide +kernel
theorem d_X_table_49 : decode b_X_table 49 = .ok (.getfield 52, 3) := by decide +kernel
theorem d_X_table_52 : decode b_X_table 52 = .ok (.bipush 8, 2) := by decide +kernel
theorem d_X_table_54 : decode b_X_table 54 = .ok (.if_icmp .lt 13, 3) := by decide +kernel
theorem d_X_table_57 : decode b_X_table 57 = .ok (.new 77, 3) := by decide +kernel
theorem d_X_table_60 : decode b_X_table 60 = .ok (.dup, 1) := by decide +kernel
theorem d_X_table_61 : decode b_X_table 61 = .ok (.ldc 135, 2) := by decide +kernel
theorem d_X_table_63 : decode b_X_table 63 = .ok (.invokespecial 81, 3) := by decide +kernel
theorem d_X_table_66 : decode b_X_table 66 = .ok (.athrow, 1) := by decide +kernel
theorem d_X_table_67 : decode b_X_table 67 = .ok (.aload_n 0, 1) := by decide +kernel
theorem d_X_table_68 : decode b_X_table 68 = .ok (.getfield 52, 3) := by decide +kernel
theorem d_X_table_71 : decode b_X_table 71 = .ok (.istore 6, 2) := by decide +kernel
theorem d_X_table_73 : decode b_X_table 73 = .ok (.aload_n 0, 1) := by decide +kernel
theorem d_X_table_74 : decode b_X_table 74 = .ok (.getfield 31, 3) := by decide +kernel
theorem d_X_table_77 : decode b_X_table 77 = .ok (.iload 6, 2) := by decide +kernel
theorem d_X_table_79 : decode b_X_table 79 = .ok (.aaload, 1) := by decide +kernel
theorem d_X_table_80 : decode b_X_table 80 = .ok (.astore 7, 2) := by decide +kernel
theorem d_X_table_82 : decode b_X_table 82 = .ok (.aload 7, 2) := by decide +kernel
theorem d_X_table_84 : decode b_X_table 84 = .ok (.iload_n 1, 1) := by decide +kernel
theorem d_X_table_85 : decode b_X_table 85 = .ok (.iload_n 2, 1) := by decide +kernel
theorem d_X_table_86 : decode b_X_table 86 = .ok (.iload_n 3, 1) := by decide +kernel
theorem d_X_table_87 : decode b_X_table 87 = .ok (.iconst 3, 1) := by decide +kernel
theorem d_X_table_88 : decode b_X_table 88 = .ok (.iand, 1) := by decide +kernel
theorem d_X_table_89 : decode b_X_table 89 = .ok (.iload_n 3, 1) := by decide +kernel
theorem d_X_table_90 : decode b_X_table 90 = .ok (.iconst 2, 1) := by decide +kernel
theorem d_X_table_91 : decode b_X_table 91 = .ok (.ishr, 1) := by decide +kernel
theorem d_X_table_92 : decode b_X_table 92 = .ok (.invokevirtual 137, 3) := by decide +kernel
theorem d_X_table_95 : decode b_X_table 95 = .ok (.aload 7, 2) := by decide +kernel
theorem d_X_table_97 : decode b_X_table 97 = .ok (.aload_n 0, 1) := by decide +kernel
theorem d_X_table_98 : decode b_X_table 98 = .ok (.getfield 10, 3) := by decide +kernel
theorem d_X_table_101 : decode b_X_table 101 = .ok (.iload_n 1, 1) := by decide +kernel
theorem d_X_table_102 : decode b_X_table 102 = .ok (.invokevirtual 140, 3) := by decide +kernel
theorem d_X_table_105 : decode b_X_table 105 = .ok (.aload_n 0, 1) := by decide +kernel
theorem d_X_table_106 : decode b_X_table 106 = .ok (.getfield 10, 3) := by decide +kernel
theorem d_X_table_109 : decode b_X_table 109 = .ok (.iload_n 2, 1) := by decide +kernel
theorem d_X_table_110 : decode b_X_table 110 = .ok (.invokevirtual 140, 3) := by decide +kernel
theorem d_X_table_113 : decode b_X_table 113 = .ok (.invokevirtual 143, 3) := by decide +kernel
theorem d_X_table_116 : decode b_X_table 116 = .ok (.aload 7, 2) := by decide +kernel
theorem d_X_table_118 : decode b_X_table 118 = .ok (.iload 4, 2) := by decide +kernel
theorem d_X_table_120 : decode b_X_table 120 = .ok (.iload 5, 2) := by decide +kernel
theorem d_X_table_122 : decode b_X_table 122 = .ok (.invokevirtual 146, 3) := by decide +kernel
theorem d_X_table_125 : decode b_X_table 125 = .ok (.aload_n 0, 1) := by decide +kernel
theorem d_X_table_126 : decode b_X_table 126 = .ok (.dup, 1) := by decide +kernel
theorem d_X_table_127 : decode b_X_table 127 = .ok (.getfield 52, 3) := by decide +kernel
theorem d_X_table_130 : decode b_X_table 130 = .ok (.iconst 1, 1) := by decide +kernel
theorem d_X_table_131 : decode b_X_table 131 = .ok (.iadd, 1) := by decide +kernel
theorem d_X_table_132 : decode b_X_table 132 = .ok (.putfield 52, 3) := by decide +kernel
theorem d_X_table_135 : decode b_X_table 135 = .ok (.iload 6, 2) := by decide +kernel
theorem d_X_table_137 : decode b_X_table 137 = .ok (.ireturn, 1) := by decide +kernel
theorem d_X_areKeyFields_0 : decode b_X_areKeyFields 0 = .ok (.aload_n 0, 1) := by decide +kernel
theorem d_X_areKeyFields_1 : decode b_X_areKeyFields 1 = .ok (.getfield 10, 3) := by decide +kernel
theorem d_X_areKeyFields_4 : decode b_X_areKeyFields 4 = .ok (.iload_n 1, 1) := by decide +kernel
theorem d_X_areKeyFields_5 : decode b_X_areKeyFields 5 = .ok (.invokevirtual 86, 3) := by decide +kernel
theorem d_X_areKeyFields_8 : decode b_X_areKeyFields 8 = .ok (.ifCond .eq 28, 3) := by decide +kernel
theorem d_X_areKeyFields_11 : decode b_X_areKeyFields 11 = .ok (.iload_n 2, 1) := by decide +kernel
theorem d_X_areKeyFields_12 : decode b_X_areKeyFields 12 = .ok (.iconst (-1), 1) := by decide +kernel
theorem d_X_areKeyFields_13 : decode b_X_areKeyFields 13 = .ok (.if_icmp .eq 19, 3) := by decide +kernel
theorem d_X_areKeyFields_16 : decode b_X_areKeyFields 16 = .ok (.aload_n 0, 1) := by decide +kernel
theorem d_X_areKeyFields_17 : decode b_X_areKeyFields 17 = .ok (.getfield 10, 3) := by decide +kernel
theorem d_X_areKeyFields_20 : decode b_X_areKeyFields 20 = .ok (.iload_n 2, 1) := by decide +kernel
theorem d_X_areKeyFields_21 : decode b_X_areKeyFields 21 = .ok (.invokevirtual 86, 3) := by decide +kernel
theorem d_X_areKeyFields_24 : decode b_X_areKeyFields 24 = .ok (.ifCond .eq 12, 3) := by decide +kernel
theorem d_X_areKeyFields_27 : decode b_X_areKeyFields 27 = .ok (.iload_n 1, 1) := by decide +kernel
theorem d_X_areKeyFields_28 : decode b_X_areKeyFields 28 = .ok (.iload_n 2, 1) := by decide +kernel
theorem d_X_areKeyFields_29 : decode b_X_areKeyFields 29 = .ok (.if_icmp .eq 7, 3) := by decide +kernel
theorem d_X_areKeyFields_32 : decode b_X_areKeyFields 32 = .ok (.iconst 1, 1) := by decide +kernel
theorem d_X_areKeyFields_33 : decode b_X_areKeyFields 33 = .ok (.goto 4, 3) := by decide +kernel
theorem d_X_areKeyFields_36 : decode b_X_areKeyFields 36 = .ok (.iconst 0, 1) := by decide +kernel
theorem d_X_areKeyFields_37 : decode b_X_areKeyFields 37 = .ok (.ireturn, 1) := by decide +kernel
theorem d_X_areActions_0 : decode b_X_areActions 0 = .ok (.iconst 1, 1) := by decide +kernel
theorem d_X_areActions_1 : decode b_X_areActions 1 = .ok (.aload_n 0, 1) := by decide +kernel
theorem d_X_areActions_2 : decode b_X_areActions 2 = .ok (.getfield 48, 3) := by decide +kernel
theorem d_X_areActions_5 : decode b_X_areActions 5 = .ok (.ishl, 1) := by decide +kernel
theorem d_X_areActions_6 : decode b_X_areActions 6 = .ok (.iconst 1, 1) := by decide +kernel
theorem d_X_areActions_7 : decode b_X_areActions 7 = .ok (.isub, 1) := by decide +kernel
theorem d_X_areActions_8 : decode b_X_areActions 8 = .ok (.istore_n 3, 1) := by decide +kernel
theorem d_X_areActions_9 : decode b_X_areActions 9 = .ok (.iload_n 1, 1) := by decide +kernel
theorem d_X_areActions_10 : decode b_X_areActions 10 = .ok (.iload_n 3, 1) := by decide +kernel
theorem d_X_areActions_11 : decode b_X_areActions 11 = .ok (.iconst (-1), 1) := by decide +kernel
theorem d_X_areActions_12 : decode b_X_areActions 12 = .ok (.ixor, 1) := by decide +kernel
theorem d_X_areActions_13 : decode b_X_areActions 13 = .ok (.iand, 1) := by decide +kernel
theorem d_X_areActions_14 : decode b_X_areActions 14 = .ok (.ifCond .ne 23, 3) := by decide +kernel
theorem d_X_areActions_17 : decode b_X_areActions 17 = .ok (.aload_n 0, 1) := by decide +kernel
theorem d_X_areActions_18 : decode b_X_areActions 18 = .ok (.iload_n 2, 1) := by decide +kernel
theorem d_X_areActions_19 : decode b_X_areActions 19 = .ok (.invokevirtual 107, 3) := by decide +kernel
theorem d_X_areActions_22 : decode b_X_areActions 22 = .ok (.ifCond .eq 15, 3) := by decide +kernel
theorem d_X_areActions_25 : decode b_X_areActions 25 = .ok (.iload_n 1, 1) := by decide +kernel
theorem d_X_areActions_26 : decode b_X_areActions 26 = .ok (.iload_n 2, 1) := by decide +kernel
theorem d_X_areActions_27 : decode b_X_areActions 27 = .ok (.ishr, 1) := by decide +kernel
theorem d_X_areActions_28 : decode b_X_areActions 28 = .ok (.iconst 1, 1) := by decide +kernel
theorem d_X_areActions_29 : decode b_X_areActions 29 = .ok (.iand, 1) := by decide +kernel
theorem d_X_areActions_30 : decode b_X_areActions 30 = .ok (.ifCond .eq 7, 3) := by decide +kernel
theorem d_X_areActions_33 : decode b_X_areActions 33 = .ok (.iconst 1, 1) := by decide +kernel
theorem d_X_areActions_34 : decode b_X_areActions 34 = .ok (.goto 4, 3) := by decide +kernel
theorem d_X_areActions_37 : decode b_X_areActions 37 = .ok (.iconst 0, 1) := by decide +kernel
theorem d_X_areActions_38 : decode b_X_areActions 38 = .ok (.ireturn, 1) := by decide +kernel
theorem d_X_isHow_0 : decode b_X_isHow 0 = .ok (.iload_n 0, 1) := by decide +kernel
theorem d_X_isHow_1 : decode b_X_isHow 1 = .ok (.iconst 3, 1) := by decide +kernel
theorem d_X_isHow_2 : decode b_X_isHow 2 = .ok (.iand, 1) := by decide +kernel
theorem d_X_isHow_3 : decode b_X_isHow 3 = .ok (.istore_n 2, 1) := by decide +kernel
theorem d_X_isHow_4 : decode b_X_isHow 4 = .ok (.iload_n 0, 1) := by decide +kernel
theorem d_X_isHow_5 : decode b_X_isHow 5 = .ok (.iconst 2, 1) := by decide +kernel
theorem d_X_isHow_6 : decode b_X_isHow 6 = .ok (.ishr, 1) := by decide +kernel
theorem d_X_isHow_7 : decode b_X_isHow 7 = .ok (.istore_n 3, 1) := by decide +kernel
theorem d_X_isHow_8 : decode b_X_isHow 8 = .ok (.iload_n 2, 1) := by decide +kernel
theorem d_X_isHow_9 : decode b_X_isHow 9 = .ok (.iconst 2, 1) := by decide +kernel
theorem d_X_isHow_10 : decode b_X_isHow 10 = .ok (.if_icmp .gt 12, 3) := by decide +kernel
theorem d_X_isHow_13 : decode b_X_isHow 13 = .ok (.iload_n 3, 1) := by decide +kernel
theorem d_X_isHow_14 : decode b_X_isHow 14 = .ok (.ifCond .lt 8, 3) := by decide +kernel
theorem d_X_isHow_17 : decode b_X_isHow 17 = .ok (.iload_n 3, 1) := by decide +kernel
theorem d_X_isHow_18 : decode b_X_isHow 18 = .ok (.iconst 2, 1) := by decide +kernel
theorem d_X_isHow_19 : decode b_X_isHow 19 = .ok (.if_icmp .le 5, 3) := by decide +kernel
theorem d_X_isHow_22 : decode b_X_isHow 22 = .ok (.iconst 0, 1) := by decide +kernel
theorem d_X_isHow_23 : decode b_X_isHow 23 = .ok (.ireturn, 1) := by decide +kernel
theorem d_X_isHow_24 : decode b_X_isHow 24 = .ok (.iload_n 1, 1) := by decide +kernel
theorem d_X_isHow_25 : decode b_X_isHow 25 = .ok (.iconst (-1), 1) := by decide +kernel
theorem d_X_isHow_26 : decode b_X_isHow 26 = .ok (.if_icmp .ne 13, 3) := by decide +kernel
theorem d_X_isHow_29 : decode b_X_isHow 29 = .ok (.iload_n 3, 1) := by decide +kernel
theorem d_X_isHow_30 : decode b_X_isHow 30 = .ok (.ifCond .ne 7, 3) := by decide +kernel
theorem d_X_isHow_33 : decode b_X_isHow 33 = .ok (.iconst 1, 1) := by decide +kernel
theorem d_X_isHow_34 : decode b_X_isHow 34 = .ok (.goto 4, 3) := by decide +kernel
theorem d_X_isHow_37 : decode b_X_isHow 37 = .ok (.iconst 0, 1) := by decide +kernel
theorem d_X_isHow_38 : decode b_X_isHow 38 = .ok (.ireturn, 1) := by decide +kernel
theorem d_X_isHow_39 : decode b_X_isHow 39 = .ok (.iload_n 2, 1) := by decide +kernel
theorem d_X_isHow_40 : decode b_X_isHow 40 = .ok (.iconst 1, 1) := by decide +kernel
theorem d_X_isHow_41 : decode b_X_isHow 41 = .ok (.if_icmp .ne 8, 3) := by decide +kernel
theorem d_X_isHow_44 : decode b_X_isHow 44 = .ok (.iload_n 3, 1) := by decide +kernel
theorem d_X_isHow_45 : decode b_X_isHow 45 = .ok (.iconst 1, 1) := by decide +kernel
theorem d_X_isHow_46 : decode b_X_isHow 46 = .ok (.if_icmp .eq 7, 3) := by decide +kernel
theorem d_X_isHow_49 : decode b_X_isHow 49 = .ok (.iconst 1, 1) := by decide +kernel
theorem d_X_isHow_50 : decode b_X_isHow 50 = .ok (.goto 4, 3) := by decide +kernel
theorem d_X_isHow_53 : decode b_X_isHow 53 = .ok (.iconst 0, 1) := by decide +kernel
theorem d_X_isHow_54 : decode b_X_isHow 54 = .ok (.ireturn, 1) := by decide +kernel
theorem d_T_matchKeys_0 : decode b_T_matchKeys 0 = .ok (.aload_n 0, 1) := by decide +kernel
theorem d_T_matchKeys_1 : decode b_T_matchKeys 1 = .ok (.iload_n 1, 1) := by decide +kernel
theorem d_T_matchKeys_2 : decode b_T_matchKeys 2 = .ok (.putfield 25, 3) := by decide +kernel
theorem d_T_matchKeys_5 : decode b_T_matchKeys 5 = .ok (.aload_n 0, 1) := by decide +kernel
theorem d_T_matchKeys_6 : decode b_T_matchKeys 6 = .ok (.iload_n 2, 1) := by decide +kernel
theorem d_T_matchKeys_7 : decode b_T_matchKeys 7 = .ok (.putfield 29, 3) := by decide +kernel
theorem d_T_matchKeys_10 : decode b_T_matchKeys 10 = .ok (.aload_n 0, 1) := by decide +kernel
theorem d_T_matchKeys_11 : decode b_T_matchKeys 11 = .ok (.iload_n 3, 1) := by decide +kernel
theorem d_T_matchKeys_12 : decode b_T_matchKeys 12 = .ok (.putfield 32, 3) := by decide +kernel
theorem d_T_matchKeys_15 : decode b_T_matchKeys 15 = .ok (.aload_n 0, 1) := by decide +kernel
theorem d_T_matchKeys_16 : decode b_T_matchKeys 16 = .ok (.iload 4, 2) := by decide +kernel
theorem d_T_matchKeys_18 : decode b_T_matchKeys 18 = .ok (.putfield 35, 3) := by decide +kernel
theorem d_T_matchKeys_21 : decode b_T_matchKeys 21 = .ok (.aload_n 0, 1) := by decide +kernel
theorem d_T_matchKeys_22 : decode b_T_matchKeys 22 = .ok (.iconst 0, 1) := by decide +kernel
theorem d_T_matchKeys_23 : decode b_T_matchKeys 23 = .ok (.putfield 38, 3) := by decide +kernel
theorem d_T_matchKeys_26 : decode b_T_matchKeys 26 = .ok (.return_, 1) := by decide +kernel
theorem d_F_onesOf_0 : decode b_F_onesOf 0 = .ok (.aload_n 0, 1) := by decide +kernel
theorem d_F_onesOf_1 : decode b_F_onesOf 1 = .ok (.iload_n 1, 1) := by decide +kernel
theorem d_F_onesOf_2 : decode b_F_onesOf 2 = .ok (.invokevirtual 26, 3) := by decide +kernel
theorem d_F_onesOf_5 : decode b_F_onesOf 5 = .ok (.ifCond .eq 12, 3) := by decide +kernel
theorem d_F_onesOf_8 : decode b_F_onesOf 8 = .ok (.aload_n 0, 1) := by decide +kernel
theorem d_F_onesOf_9 : decode b_F_onesOf 9 = .ok (.getfield 9, 3) := by decide +kernel
theorem d_F_onesOf_12 : decode b_F_onesOf 12 = .ok (.iload_n 1, 1) := by decide +kernel
theorem d_F_onesOf_13 : decode b_F_onesOf 13 = .ok (.iaload, 1) := by decide +kernel
theorem d_F_onesOf_14 : decode b_F_onesOf 14 = .ok (.goto 4, 3) := by decide +kernel
theorem d_F_onesOf_17 : decode b_F_onesOf 17 = .ok (.iconst 0, 1) := by decide +kernel
theorem d_F_onesOf_18 : decode b_F_onesOf 18 = .ok (.ireturn, 1) := by decide +kernel
theorem d_T_cutKeysTo_0 : decode b_T_cutKeysTo 0 = .ok (.aload_n 0, 1) := by decide +kernel
theorem d_T_cutKeysTo_1 : decode b_T_cutKeysTo 1 = .ok (.iload_n 1, 1) := by decide +kernel
theorem d_T_cutKeysTo_2 : decode b_T_cutKeysTo 2 = .ok (.putfield 41, 3) := by decide +kernel
theorem d_T_cutKeysTo_5 : decode b_T_cutKeysTo 5 = .ok (.aload_n 0, 1) := by decide +kernel
theorem d_T_cutKeysTo_6 : decode b_T_cutKeysTo 6 = .ok (.iload_n 2, 1) := by decide +kernel
theorem d_T_cutKeysTo_7 : decode b_T_cutKeysTo 7 = .ok (.putfield 44, 3) := by decide +kernel
theorem d_T_cutKeysTo_10 : decode b_T_cutKeysTo 10 = .ok (.return_, 1) := by decide +kernel
theorem d_T_allowActions_0 : decode b_T_allowActions 0 = .ok (.aload_n 0, 1) := by decide +kernel
theorem d_T_allowActions_1 : decode b_T_allowActions 1 = .ok (.iload_n 1, 1) := by decide +kernel
theorem d_T_allowActions_2 : decode b_T_allowActions 2 = .ok (.putfield 47, 3) := by decide +kernel
theorem d_T_allowActions_5 : decode b_T_allowActions 5 = .ok (.aload_n 0, 1) := by decide +kernel
theorem d_T_allowActions_6 : decode b_T_allowActions 6 = .ok (.iload_n 2, 1) := by decide +kernel
theorem d_T_allowActions_7 : decode b_T_allowActions 7 = .ok (.putfield 50, 3) := by decide +kernel
theorem d_T_allowActions_10 : decode b_T_allowActions 10 = .ok (.return_, 1) := by decide +kernel
theorem d_X_insert_0 : decode b_X_insert 0 = .ok (.aload_n 0, 1) := by decide +kernel
theorem d_X_insert_1 : decode b_X_insert 1 = .ok (.iload_n 1, 1) := by decide +kernel
theorem d_X_insert_2 : decode b_X_insert 2 = .ok (.invokevirtual 149, 3) := by decide +kernel
theorem d_X_insert_5 : decode b_X_insert 5 = .ok (.ifCond .ne 13, 3) := by decide +kernel
theorem d_X_insert_8 : decode b_X_insert 8 = .ok (.new 90, 3) := by decide +kernel
theorem d_X_insert_11 : decode b_X_insert 11 = .ok (.dup, 1) := by decide +kernel
theorem d_X_insert_12 : decode b_X_insert 12 = .ok (.ldc 152, 2) := by decide +kernel
theorem d_X_insert_14 : decode b_X_insert 14 = .ok (.invokespecial 94, 3) := by decide +kernel
theorem d_X_insert_17 : decode b_X_insert 17 = .ok (.athrow, 1) := by decide +kernel
theorem d_X_insert_18 : decode b_X_insert 18 = .ok (.aload_n 0, 1) := by decide +kernel
theorem d_X_insert_19 : decode b_X_insert 19 = .ok (.getfield 31, 3) := by decide +kernel
theorem d_X_insert_22 : decode b_X_insert 22 = .ok (.iload_n 1, 1) := by decide +kernel
theorem d_X_insert_23 : decode b_X_insert 23 = .ok (.aaload, 1) := by decide +kernel
theorem d_X_insert_24 : decode b_X_insert 24 = .ok (.aload_n 0, 1) := by decide +kernel
theorem d_X_insert_25 : decode b_X_insert 25 = .ok (.getfield 38, 3) := by decide +kernel
theorem d_X_insert_28 : decode b_X_insert 28 = .ok (.iload_n 2, 1) := by decide +kernel
theorem d_X_insert_29 : decode b_X_insert 29 = .ok (.iload_n 3, 1) := by decide +kernel
theorem d_X_insert_30 : decode b_X_insert 30 = .ok (.iload 4, 2) := by decide +kernel
theorem d_X_insert_32 : decode b_X_insert 32 = .ok (.iload 5, 2) := by decide +kernel
theorem d_X_insert_34 : decode b_X_insert 34 = .ok (.invokevirtual 154, 3) := by decide +kernel
theorem d_X_insert_37 : decode b_X_insert 37 = .ok (.ireturn, 1) := by decide +kernel
theorem d_T_takeIn_0 : decode b_T_takeIn 0 = .ok (.aload_n 0, 1) := by decide +kernel
theorem d_T_takeIn_1 : decode b_T_takeIn 1 = .ok (.aload_n 1, 1) := by decide +kernel
theorem d_T_takeIn_2 : decode b_T_takeIn 2 = .ok (.invokevirtual 53, 3) := by decide +kernel
theorem d_T_takeIn_5 : decode b_T_takeIn 5 = .ok (.aload_n 0, 1) := by decide +kernel
theorem d_T_takeIn_6 : decode b_T_takeIn 6 = .ok (.invokevirtual 57, 3) := by decide +kernel
theorem d_T_takeIn_9 : decode b_T_takeIn 9 = .ok (.ifCond .eq 28, 3) := by decide +kernel
theorem d_T_takeIn_12 : decode b_T_takeIn 12 = .ok (.aload_n 0, 1) := by decide +kernel
theorem d_T_takeIn_13 : decode b_T_takeIn 13 = .ok (.iload_n 3, 1) := by decide +kernel
theorem d_T_takeIn_14 : decode b_T_takeIn 14 = .ok (.invokevirtual 61, 3) := by decide +kernel
theorem d_T_takeIn_17 : decode b_T_takeIn 17 = .ok (.ifCond .eq 20, 3) := by decide +kernel
theorem d_T_takeIn_20 : decode b_T_takeIn 20 = .ok (.aload_n 0, 1) := by decide +kernel
theorem d_T_takeIn_21 : decode b_T_takeIn 21 = .ok (.invokevirtual 65, 3) := by decide +kernel
theorem d_T_takeIn_24 : decode b_T_takeIn 24 = .ok (.iconst (-1), 1) := by decide +kernel
theorem d_T_takeIn_25 : decode b_T_takeIn 25 = .ok (.if_icmp .ne 12, 3) := by decide +kernel
theorem d_T_takeIn_28 : decode b_T_takeIn 28 = .ok (.aload_n 0, 1) := by decide +kernel
theorem d_T_takeIn_29 : decode b_T_takeIn 29 = .ok (.getfield 38, 3) := by decide +kernel
theorem d_T_takeIn_32 : decode b_T_takeIn 32 = .ok (.bipush 20, 2) := by decide +kernel
theorem d_T_takeIn_34 : decode b_T_takeIn 34 = .ok (.if_icmp .lt 5, 3) := by decide +kernel
theorem d_T_takeIn_37 : decode b_T_takeIn 37 = .ok (.iconst 0, 1) := by decide +kernel
theorem d_T_takeIn_38 : decode b_T_takeIn 38 = .ok (.ireturn, 1) := by decide +kernel
theorem d_T_takeIn_39 : decode b_T_takeIn 39 = .ok (.aload_n 0, 1) := by decide +kernel
theorem d_T_takeIn_40 : decode b_T_takeIn 40 = .ok (.getfield 11, 3) := by decide +kernel
theorem d_T_takeIn_43 : decode b_T_takeIn 43 = .ok (.aload_n 0, 1) := by decide +kernel
theorem d_T_takeIn_44 : decode b_T_takeIn 44 = .ok (.getfield 38, 3) := by decide +kernel
theorem d_T_takeIn_47 : decode b_T_takeIn 47 = .ok (.aaload, 1) := by decide +kernel
theorem d_T_takeIn_48 : decode b_T_takeIn 48 = .ok (.astore 6, 2) := by decide +kernel
theorem d_T_takeIn_50 : decode b_T_takeIn 50 = .ok (.aload 6, 2) := by decide +kernel
theorem d_T_takeIn_52 : decode b_T_takeIn 52 = .ok (.getfield 69, 3) := by decide +kernel
theorem d_T_takeIn_55 : decode b_T_takeIn 55 = .ok (.aload_n 0, 1) := by decide +kernel
theorem d_T_takeIn_56 : decode b_T_takeIn 56 = .ok (.getfield 20, 3) := by decide +kernel
theorem d_T_takeIn_59 : decode b_T_takeIn 59 = .ok (.getfield 72, 3) := by decide +kernel
theorem d_T_takeIn_62 : decode b_T_takeIn 62 = .ok (.aload_n 0, 1) := by decide +kernel
theorem d_T_takeIn_63 : decode b_T_takeIn 63 = .ok (.getfield 20, 3) := by decide +kernel
theorem d_T_takeIn_66 : decode b_T_takeIn 66 = .ok (.getfield 75, 3) := by decide +kernel
theorem d_T_takeIn_69 : decode b_T_takeIn 69 = .ok (.aload_n 0, 1) := by decide +kernel
theorem d_T_takeIn_70 : decode b_T_takeIn 70 = .ok (.getfield 20, 3) := by decide +kernel
theorem d_T_takeIn_73 : decode b_T_takeIn 73 = .ok (.getfield 78, 3) := by decide +kernel
theorem d_T_takeIn_76 : decode b_T_takeIn 76 = .ok (.aload_n 0, 1) := by decide +kernel
theorem d_T_takeIn_77 : decode b_T_takeIn 77 = .ok (.getfield 20, 3) := by decide +kernel
theorem d_T_takeIn_80 : decode b_T_takeIn 80 = .ok (.getfield 81, 3) := by decide +kernel
theorem d_T_takeIn_83 : decode b_T_takeIn 83 = .ok (.invokevirtual 84, 3) := by decide +kernel
theorem d_T_takeIn_86 : decode b_T_takeIn 86 = .ok (.aload 6, 2) := by decide +kernel
theorem d_T_takeIn_88 : decode b_T_takeIn 88 = .ok (.iload_n 2, 1) := by decide +kernel
theorem d_T_takeIn_89 : decode b_T_takeIn 89 = .ok (.putfield 88, 3) := by decide +kernel
theorem d_T_takeIn_92 : decode b_T_takeIn 92 = .ok (.aload 6, 2) := by decide +kernel
theorem d_T_takeIn_94 : decode b_T_takeIn 94 = .ok (.iload_n 3, 1) := by decide +kernel
theorem d_T_takeIn_95 : decode b_T_takeIn 95 = .ok (.putfield 91, 3) := by decide +kernel
theorem d_T_takeIn_98 : decode b_T_takeIn 98 = .ok (.aload 6, 2) := by decide +kernel
theorem d_T_takeIn_100 : decode b_T_takeIn 100 = .ok (.iload 4, 2) := by decide +kernel
theorem d_T_takeIn_102 : decode b_T_takeIn 102 = .ok (.putfield 94, 3) := by decide +kernel
theorem d_T_takeIn_105 : decode b_T_takeIn 105 = .ok (.aload 6, 2) := by decide +kernel
theorem d_T_takeIn_107 : decode b_T_takeIn 107 = .ok (.iload 5, 2) := by decide +kernel
theorem d_T_takeIn_109 : decode b_T_takeIn 109 = .ok (.putfield 97, 3) := by decide +kernel
theorem d_T_takeIn_112 : decode b_T_takeIn 112 = .ok (.aload_n 0, 1) := by decide +kernel
theorem d_T_takeIn_113 : decode b_T_takeIn 113 = .ok (.dup, 1) := by decide +kernel
theorem d_T_takeIn_114 : decode b_T_takeIn 114 = .ok (.getfield 38, 3) := by decide +kernel
theorem d_T_takeIn_117 : decode b_T_takeIn 117 = .ok (.iconst 1, 1) := by decide +kernel
theorem d_T_takeIn_118 : decode b_T_takeIn 118 = .ok (.iadd, 1) := by decide +kernel
theorem d_T_takeIn_119 : decode b_T_takeIn 119 = .ok (.putfield 38, 3) := by decide +kernel
theorem d_T_takeIn_122 : decode b_T_takeIn 122 = .ok (.iconst 1, 1) := by decide +kernel
theorem d_T_takeIn_123 : decode b_T_takeIn 123 = .ok (.ireturn, 1) := by decide +kernel
theorem d_T_seek_0 : decode b_T_seek 0 = .ok (.aload_n 1, 1) := by decide +kernel
theorem d_T_seek_1 : decode b_T_seek 1 = .ok (.getfield 75, 3) := by decide +kernel
theorem d_T_seek_4 : decode b_T_seek 4 = .ok (.aload_n 0, 1) := by decide +kernel
theorem d_T_seek_5 : decode b_T_seek 5 = .ok (.getfield 41, 3) := by decide +kernel
theorem d_T_seek_8 : decode b_T_seek 8 = .ok (.iand, 1) := by decide +kernel
theorem d_T_seek_9 : decode b_T_seek 9 = .ok (.istore_n 2, 1) := by decide +kernel
theorem d_T_seek_10 : decode b_T_seek 10 = .ok (.aload_n 1, 1) := by decide +kernel
theorem d_T_seek_11 : decode b_T_seek 11 = .ok (.getfield 81, 3) := by decide +kernel
theorem d_T_seek_14 : decode b_T_seek 14 = .ok (.aload_n 0, 1) := by decide +kernel
theorem d_T_seek_15 : decode b_T_seek 15 = .ok (.getfield 44, 3) := by decide +kernel
theorem d_T_seek_18 : decode b_T_seek 18 = .ok (.iand, 1) := by decide +kernel
theorem d_T_seek_19 : decode b_T_seek 19 = .ok (.istore_n 3, 1) := by decide +kernel
theorem d_T_seek_20 : decode b_T_seek 20 = .ok (.aload_n 0, 1) := by decide +kernel
theorem d_T_seek_21 : decode b_T_seek 21 = .ok (.getfield 20, 3) := by decide +kernel
theorem d_T_seek_24 : decode b_T_seek 24 = .ok (.aload_n 1, 1) := by decide +kernel
theorem d_T_seek_25 : decode b_T_seek 25 = .ok (.getfield 72, 3) := by decide +kernel
theorem d_T_seek_28 : decode b_T_seek 28 = .ok (.iload_n 2, 1) := by decide +kernel
theorem d_T_seek_29 : decode b_T_seek 29 = .ok (.iand, 1) := by decide +kernel
theorem d_T_seek_30 : decode b_T_seek 30 = .ok (.iload_n 2, 1) := by decide +kernel
theorem d_T_seek_31 : decode b_T_seek 31 = .ok (.aload_n 1, 1) := by decide +kernel
theorem d_T_seek_32 : decode b_T_seek 32 = .ok (.getfield 78, 3) := by decide +kernel
theorem d_T_seek_35 : decode b_T_seek 35 = .ok (.iload_n 3, 1) := by decide +kernel
theorem d_T_seek_36 : decode b_T_seek 36 = .ok (.iand, 1) := by decide +kernel
theorem d_T_seek_37 : decode b_T_seek 37 = .ok (.iload_n 3, 1) := by decide +kernel
theorem d_T_seek_38 : decode b_T_seek 38 = .ok (.invokevirtual 84, 3) := by decide +kernel
theorem d_T_seek_41 : decode b_T_seek 41 = .ok (.return_, 1) := by decide +kernel
theorem d_T_areMasks_0 : decode b_T_areMasks 0 = .ok (.aload_n 0, 1) := by decide +kernel
theorem d_T_areMasks_1 : decode b_T_areMasks 1 = .ok (.getfield 32, 3) := by decide +kernel
theorem d_T_areMasks_4 : decode b_T_areMasks 4 = .ok (.aload_n 0, 1) := by decide +kernel
theorem d_T_areMasks_5 : decode b_T_areMasks 5 = .ok (.getfield 20, 3) := by decide +kernel
theorem d_T_areMasks_8 : decode b_T_areMasks 8 = .ok (.getfield 75, 3) := by decide +kernel
theorem d_T_areMasks_11 : decode b_T_areMasks 11 = .ok (.aload_n 0, 1) := by decide +kernel
theorem d_T_areMasks_12 : decode b_T_areMasks 12 = .ok (.getfield 41, 3) := by decide +kernel
theorem d_T_areMasks_15 : decode b_T_areMasks 15 = .ok (.invokestatic 127, 3) := by decide +kernel
theorem d_T_areMasks_18 : decode b_T_areMasks 18 = .ok (.ifCond .eq 28, 3) := by decide +kernel
theorem d_T_areMasks_21 : decode b_T_areMasks 21 = .ok (.aload_n 0, 1) := by decide +kernel
theorem d_T_areMasks_22 : decode b_T_areMasks 22 = .ok (.getfield 35, 3) := by decide +kernel
theorem d_T_areMasks_25 : decode b_T_areMasks 25 = .ok (.aload_n 0, 1) := by decide +kernel
theorem d_T_areMasks_26 : decode b_T_areMasks 26 = .ok (.getfield 20, 3) := by decide +kernel
theorem d_T_areMasks_29 : decode b_T_areMasks 29 = .ok (.getfield 81, 3) := by decide +kernel
theorem d_T_areMasks_32 : decode b_T_areMasks 32 = .ok (.aload_n 0, 1) := by decide +kernel
theorem d_T_areMasks_33 : decode b_T_areMasks 33 = .ok (.getfield 44, 3) := by decide +kernel
theorem d_T_areMasks_36 : decode b_T_areMasks 36 = .ok (.invokestatic 127, 3) := by decide +kernel
theorem d_T_areMasks_39 : decode b_T_areMasks 39 = .ok (.ifCond .eq 7, 3) := by decide +kernel
theorem d_T_areMasks_42 : decode b_T_areMasks 42 = .ok (.iconst 1, 1) := by decide +kernel
theorem d_T_areMasks_43 : decode b_T_areMasks 43 = .ok (.goto 4, 3) := by decide +kernel
theorem d_T_areMasks_46 : decode b_T_areMasks 46 = .ok (.iconst 0, 1) := by decide +kernel
theorem d_T_areMasks_47 : decode b_T_areMasks 47 = .ok (.ireturn, 1) := by decide +kernel
theorem d_T_isMask_0 : decode b_T_isMask 0 = .ok (.iload_n 1, 1) := by decide +kernel
theorem d_T_isMask_1 : decode b_T_isMask 1 = .ok (.iload_n 2, 1) := by decide +kernel
theorem d_T_isMask_2 : decode b_T_isMask 2 = .ok (.ixor, 1) := by decide +kernel
theorem d_T_isMask_3 : decode b_T_isMask 3 = .ok (.istore_n 3, 1) := by decide +kernel
theorem d_T_isMask_4 : decode b_T_isMask 4 = .ok (.iload_n 0, 1) := by decide +kernel
theorem d_T_isMask_5 : decode b_T_isMask 5 = .ok (.ifCond .ne 13, 3) := by decide +kernel
theorem d_T_isMask_8 : decode b_T_isMask 8 = .ok (.iload_n 3, 1) := by decide +kernel
theorem d_T_isMask_9 : decode b_T_isMask 9 = .ok (.ifCond .ne 7, 3) := by decide +kernel
theorem d_T_isMask_12 : decode b_T_isMask 12 = .ok (.iconst 1, 1) := by decide +kernel
theorem d_T_isMask_13 : decode b_T_isMask 13 = .ok (.goto 4, 3) := by decide +kernel
theorem d_T_isMask_16 : decode b_T_isMask 16 = .ok (.iconst 0, 1) := by decide +kernel
theorem d_T_isMask_17 : decode b_T_isMask 17 = .ok (.ireturn, 1) := by decide +kernel
theorem d_T_isMask_18 : decode b_T_isMask 18 = .ok (.iload_n 0, 1) := by decide +kernel
theorem d_T_isMask_19 : decode b_T_isMask 19 = .ok (.iconst 1, 1) := by decide +kernel
theorem d_T_isMask_20 : decode b_T_isMask 20 = .ok (.if_icmp .ne 11, 3) := by decide +kernel
theorem d_T_isMask_23 : decode b_T_isMask 23 = .ok (.iload_n 3, 1) := by decide +kernel
theorem d_T_isMask_24 : decode b_T_isMask 24 = .ok (.iload_n 3, 1) := by decide +kernel
theorem d_T_isMask_25 : decode b_T_isMask 25 = .ok (.iconst 1, 1) := by decide +kernel
theorem d_T_isMask_26 : decode b_T_isMask 26 = .ok (.iadd, 1) := by decide +kernel
theorem d_T_isMask_27 : decode b_T_isMask 27 = .ok (.iand, 1) := by decide +kernel
theorem d_T_isMask_28 : decode b_T_isMask 28 = .ok (.ifCond .ne 7, 3) := by decide +kernel
theorem d_T_isMask_31 : decode b_T_isMask 31 = .ok (.iconst 1, 1) := by decide +kernel
theorem d_T_isMask_32 : decode b_T_isMask 32 = .ok (.goto 4, 3) := by decide +kernel
theorem d_T_isMask_35 : decode b_T_isMask 35 = .ok (.iconst 0, 1) := by decide +kernel
theorem d_T_isMask_36 : decode b_T_isMask 36 = .ok (.ireturn, 1) := by decide +kernel
theorem d_T_isAllowed_0 : decode b_T_isAllowed 0 = .ok (.iload_n 1, 1) := by decide +kernel
theorem d_T_isAllowed_1 : decode b_T_isAllowed 1 = .ok (.ifCond .lt 24, 3) := by decide +kernel
theorem d_T_isAllowed_4 : decode b_T_isAllowed 4 = .ok (.iload_n 1, 1) := by decide +kernel
theorem d_T_isAllowed_5 : decode b_T_isAllowed 5 = .ok (.bipush 16, 2) := by decide +kernel
theorem d_T_isAllowed_7 : decode b_T_isAllowed 7 = .ok (.if_icmp .ge 18, 3) := by decide +kernel
theorem d_T_isAllowed_10 : decode b_T_isAllowed 10 = .ok (.aload_n 0, 1) := by decide +kernel
theorem d_T_isAllowed_11 : decode b_T_isAllowed 11 = .ok (.getfield 47, 3) := by decide +kernel
theorem d_T_isAllowed_14 : decode b_T_isAllowed 14 = .ok (.iload_n 1, 1) := by decide +kernel
theorem d_T_isAllowed_15 : decode b_T_isAllowed 15 = .ok (.ishr, 1) := by decide +kernel
theorem d_T_isAllowed_16 : decode b_T_isAllowed 16 = .ok (.iconst 1, 1) := by decide +kernel
theorem d_T_isAllowed_17 : decode b_T_isAllowed 17 = .ok (.iand, 1) := by decide +kernel
theorem d_T_isAllowed_18 : decode b_T_isAllowed 18 = .ok (.ifCond .eq 7, 3) := by decide +kernel
theorem d_T_isAllowed_21 : decode b_T_isAllowed 21 = .ok (.iconst 1, 1) := by decide +kernel
theorem d_T_isAllowed_22 : decode b_T_isAllowed 22 = .ok (.goto 4, 3) := by decide +kernel
theorem d_T_isAllowed_25 : decode b_T_isAllowed 25 = .ok (.iconst 0, 1) := by decide +kernel
theorem d_T_isAllowed_26 : decode b_T_isAllowed 26 = .ok (.ireturn, 1) := by decide +kernel
theorem d_T_rowOfSought_0 : decode b_T_rowOfSought 0 = .ok (.iconst 0, 1) := by decide +kernel
theorem d_T_rowOfSought_1 : decode b_T_rowOfSought 1 = .ok (.istore_n 1, 1) := by decide +kernel
theorem d_T_rowOfSought_2 : decode b_T_rowOfSought 2 = .ok (.iload_n 1, 1) := by decide +kernel
theorem d_T_rowOfSought_3 : decode b_T_rowOfSought 3 = .ok (.aload_n 0, 1) := by decide +kernel
theorem d_T_rowOfSought_4 : decode b_T_rowOfSought 4 = .ok (.getfield 38, 3) := by decide +kernel
theorem d_T_rowOfSought_7 : decode b_T_rowOfSought 7 = .ok (.if_icmp .ge 30, 3) := by decide +kernel
theorem d_T_rowOfSought_10 : decode b_T_rowOfSought 10 = .ok (.aload_n 0, 1) := by decide +kernel
theorem d_T_rowOfSought_11 : decode b_T_rowOfSought 11 = .ok (.getfield 11, 3) := by decide +kernel
theorem d_T_rowOfSought_14 : decode b_T_rowOfSought 14 = .ok (.iload_n 1, 1) := by decide +kernel
theorem d_T_rowOfSought_15 : decode b_T_rowOfSought 15 = .ok (.aaload, 1) := by decide +kernel
theorem d_T_rowOfSought_16 : decode b_T_rowOfSought 16 = .ok (.getfield 69, 3) := by decide +kernel
theorem d_T_rowOfSought_19 : decode b_T_rowOfSought 19 = .ok (.aload_n 0, 1) := by decide +kernel
theorem d_T_rowOfSought_20 : decode b_T_rowOfSought 20 = .ok (.getfield 20, 3) := by decide +kernel
theorem d_T_rowOfSought_23 : decode b_T_rowOfSought 23 = .ok (.invokevirtual 123, 3) := by decide +kernel
theorem d_T_rowOfSought_26 : decode b_T_rowOfSought 26 = .ok (.ifCond .eq 5, 3) := by decide +kernel
theorem d_T_rowOfSought_29 : decode b_T_rowOfSought 29 = .ok (.iload_n 1, 1) := by decide +kernel
theorem d_T_rowOfSought_30 : decode b_T_rowOfSought 30 = .ok (.ireturn, 1) := by decide +kernel
theorem d_T_rowOfSought_31 : decode b_T_rowOfSought 31 = .ok (.iinc 1 1, 3) := by decide +kernel
theorem d_T_rowOfSought_34 : decode b_T_rowOfSought 34 = .ok (.goto (-32), 3) := by decide +kernel
theorem d_T_rowOfSought_37 : decode b_T_rowOfSought 37 = .ok (.iconst (-1), 1) := by decide +kernel
theorem d_T_rowOfSought_38 : decode b_T_rowOfSought 38 = .ok (.ireturn, 1) := by decide +kernel
theorem d_K_isSameAs_0 : decode b_K_isSameAs 0 = .ok (.aload_n 0, 1) := by decide +kernel
theorem d_K_isSameAs_1 : decode b_K_isSameAs 1 = .ok (.getfield 7, 3) := by decide +kernel
theorem d_K_isSameAs_4 : decode b_K_isSameAs 4 = .ok (.aload_n 1, 1) := by decide +kernel
theorem d_K_isSameAs_5 : decode b_K_isSameAs 5 = .ok (.getfield 7, 3) := by decide +kernel
theorem d_K_isSameAs_8 : decode b_K_isSameAs 8 = .ok (.if_icmp .ne 40, 3) := by decide +kernel
theorem d_K_isSameAs_11 : decode b_K_isSameAs 11 = .ok (.aload_n 0, 1) := by decide +kernel
theorem d_K_isSameAs_12 : decode b_K_isSameAs 12 = .ok (.getfield 13, 3) := by decide +kernel
theorem d_K_isSameAs_15 : decode b_K_isSameAs 15 = .ok (.aload_n 1, 1) := by decide +kernel
theorem d_K_isSameAs_16 : decode b_K_isSameAs 16 = .ok (.getfield 13, 3) := by decide +kernel
theorem d_K_isSameAs_19 : decode b_K_isSameAs 19 = .ok (.if_icmp .ne 29, 3) := by decide +kernel
theorem d_K_isSameAs_22 : decode b_K_isSameAs 22 = .ok (.aload_n 0, 1) := by decide +kernel
theorem d_K_isSameAs_23 : decode b_K_isSameAs 23 = .ok (.getfield 16, 3) := by decide +kernel
theorem d_K_isSameAs_26 : decode b_K_isSameAs 26 = .ok (.aload_n 1, 1) := by decide +kernel
theorem d_K_isSameAs_27 : decode b_K_isSameAs 27 = .ok (.getfield 16, 3) := by decide +kernel
theorem d_K_isSameAs_30 : decode b_K_isSameAs 30 = .ok (.if_icmp .ne 18, 3) := by decide +kernel
theorem d_K_isSameAs_33 : decode b_K_isSameAs 33 = .ok (.aload_n 0, 1) := by decide +kernel
theorem d_K_isSameAs_34 : decode b_K_isSameAs 34 = .ok (.getfield 19, 3) := by decide +kernel
theorem d_K_isSameAs_37 : decode b_K_isSameAs 37 = .ok (.aload_n 1, 1) := by decide +kernel
theorem d_K_isSameAs_38 : decode b_K_isSameAs 38 = .ok (.getfield 19, 3) := by decide +kernel
theorem d_K_isSameAs_41 : decode b_K_isSameAs 41 = .ok (.if_icmp .ne 7, 3) := by decide +kernel
theorem d_K_isSameAs_44 : decode b_K_isSameAs 44 = .ok (.iconst 1, 1) := by decide +kernel
theorem d_K_isSameAs_45 : decode b_K_isSameAs 45 = .ok (.goto 4, 3) := by decide +kernel
theorem d_K_isSameAs_48 : decode b_K_isSameAs 48 = .ok (.iconst 0, 1) := by decide +kernel
theorem d_K_isSameAs_49 : decode b_K_isSameAs 49 = .ok (.ireturn, 1) := by decide +kernel
theorem d_X_remove_0 : decode b_X_remove 0 = .ok (.aload_n 0, 1) := by decide +kernel
theorem d_X_remove_1 : decode b_X_remove 1 = .ok (.iload_n 1, 1) := by decide +kernel
theorem d_X_remove_2 : decode b_X_remove 2 = .ok (.invokevirtual 149, 3) := by decide +kernel
theorem d_X_remove_5 : decode b_X_remove 5 = .ok (.ifCond .ne 13, 3) := by decide +kernel
theorem d_X_remove_8 : decode b_X_remove 8 = .ok (.new 90, 3) := by decide +kernel
theorem d_X_remove_11 : decode b_X_remove 11 = .ok (.dup, 1) := by decide +kernel
theorem d_X_remove_12 : decode b_X_remove 12 = .ok (.ldc 152, 2) := by decide +kernel
theorem d_X_remove_14 : decode b_X_remove 14 = .ok (.invokespecial 94, 3) := by decide +kernel
theorem d_X_remove_17 : decode b_X_remove 17 = .ok (.athrow, 1) := by decide +kernel
theorem d_X_remove_18 : decode b_X_remove 18 = .ok (.aload_n 0, 1) := by decide +kernel
theorem d_X_remove_19 : decode b_X_remove 19 = .ok (.getfield 31, 3) := by decide +kernel
theorem d_X_remove_22 : decode b_X_remove 22 = .ok (.iload_n 1, 1) := by decide +kernel
theorem d_X_remove_23 : decode b_X_remove 23 = .ok (.aaload, 1) := by decide +kernel
theorem d_X_remove_24 : decode b_X_remove 24 = .ok (.aload_n 0, 1) := by decide +kernel
theorem d_X_remove_25 : decode b_X_remove 25 = .ok (.getfield 38, 3) := by decide +kernel
theorem d_X_remove_28 : decode b_X_remove 28 = .ok (.invokevirtual 158, 3) := by decide +kernel
theorem d_X_remove_31 : decode b_X_remove 31 = .ok (.ireturn, 1) := by decide +kernel
theorem d_T_takeOut_0 : decode b_T_takeOut 0 = .ok (.aload_n 0, 1) := by decide +kernel
theorem d_T_takeOut_1 : decode b_T_takeOut 1 = .ok (.aload_n 1, 1) := by decide +kernel
theorem d_T_takeOut_2 : decode b_T_takeOut 2 = .ok (.invokevirtual 53, 3) := by decide +kernel
theorem d_T_takeOut_5 : decode b_T_takeOut 5 = .ok (.aload_n 0, 1) := by decide +kernel
theorem d_T_takeOut_6 : decode b_T_takeOut 6 = .ok (.invokevirtual 65, 3) := by decide +kernel
theorem d_T_takeOut_9 : decode b_T_takeOut 9 = .ok (.istore_n 2, 1) := by decide +kernel
theorem d_T_takeOut_10 : decode b_T_takeOut 10 = .ok (.iload_n 2, 1) := by decide +kernel
theorem d_T_takeOut_11 : decode b_T_takeOut 11 = .ok (.ifCond .lt 11, 3) := by decide +kernel
theorem d_T_takeOut_14 : decode b_T_takeOut 14 = .ok (.iload_n 2, 1) := by decide +kernel
theorem d_T_takeOut_15 : decode b_T_takeOut 15 = .ok (.aload_n 0, 1) := by decide +kernel
theorem d_T_takeOut_16 : decode b_T_takeOut 16 = .ok (.getfield 38, 3) := by decide +kernel
theorem d_T_takeOut_19 : decode b_T_takeOut 19 = .ok (.if_icmp .lt 5, 3) := by decide +kernel
theorem d_T_takeOut_22 : decode b_T_takeOut 22 = .ok (.iconst 0, 1) := by decide +kernel
theorem d_T_takeOut_23 : decode b_T_takeOut 23 = .ok (.ireturn, 1) := by decide +kernel
theorem d_T_takeOut_24 : decode b_T_takeOut 24 = .ok (.aload_n 0, 1) := by decide +kernel
theorem d_T_takeOut_25 : decode b_T_takeOut 25 = .ok (.getfield 11, 3) := by decide +kernel
theorem d_T_takeOut_28 : decode b_T_takeOut 28 = .ok (.iload_n 2, 1) := by decide +kernel
theorem d_T_takeOut_29 : decode b_T_takeOut 29 = .ok (.aaload, 1) := by decide +kernel
theorem d_T_takeOut_30 : decode b_T_takeOut 30 = .ok (.astore_n 3, 1) := by decide +kernel
theorem d_T_takeOut_31 : decode b_T_takeOut 31 = .ok (.iload_n 2, 1) := by decide +kernel
theorem d_T_takeOut_32 : decode b_T_takeOut 32 = .ok (.iconst 1, 1) := by decide +kernel
theorem d_T_takeOut_33 : decode b_T_takeOut 33 = .ok (.iadd, 1) := by decide +kernel
theorem d_T_takeOut_34 : decode b_T_takeOut 34 = .ok (.istore 4, 2) := by decide +kernel
theorem d_T_takeOut_36 : decode b_T_takeOut 36 = .ok (.iload 4, 2) := by decide +kernel
theorem d_T_takeOut_38 : decode b_T_takeOut 38 = .ok (.aload_n 0, 1) := by decide +kernel
theorem d_T_takeOut_39 : decode b_T_takeOut 39 = .ok (.getfield 38, 3) := by decide +kernel
theorem d_T_takeOut_42 : decode b_T_takeOut 42 = .ok (.if_icmp .ge 25, 3) := by decide +kernel
theorem d_T_takeOut_45 : decode b_T_takeOut 45 = .ok (.aload_n 0, 1) := by decide +kernel
theorem d_T_takeOut_46 : decode b_T_takeOut 46 = .ok (.getfield 11, 3) := by decide +kernel
theorem d_T_takeOut_49 : decode b_T_takeOut 49 = .ok (.iload 4, 2) := by decide +kernel
theorem d_T_takeOut_51 : decode b_T_takeOut 51 = .ok (.iconst 1, 1) := by decide +kernel
theorem d_T_takeOut_52 : decode b_T_takeOut 52 = .ok (.isub, 1) := by decide +kernel
theorem d_T_takeOut_53 : decode b_T_takeOut 53 = .ok (.aload_n 0, 1) := by decide +kernel
theorem d_T_takeOut_54 : decode b_T_takeOut 54 = .ok (.getfield 11, 3) := by decide +kernel
theorem d_T_takeOut_57 : decode b_T_takeOut 57 = .ok (.iload 4, 2) := by decide +kernel
theorem d_T_takeOut_59 : decode b_T_takeOut 59 = .ok (.aaload, 1) := by decide +kernel
theorem d_T_takeOut_60 : decode b_T_takeOut 60 = .ok (.aastore, 1) := by decide +kernel
theorem d_T_takeOut_61 : decode b_T_takeOut 61 = .ok (.iinc 4 1, 3) := by decide +kernel
theorem d_T_takeOut_64 : decode b_T_takeOut 64 = .ok (.goto (-28), 3) := by decide +kernel
theorem d_T_takeOut_67 : decode b_T_takeOut 67 = .ok (.aload_n 0, 1) := by decide +kernel
theorem d_T_takeOut_68 : decode b_T_takeOut 68 = .ok (.dup, 1) := by decide +kernel
theorem d_T_takeOut_69 : decode b_T_takeOut 69 = .ok (.getfield 38, 3) := by decide +kernel
theorem d_T_takeOut_72 : decode b_T_takeOut 72 = .ok (.iconst 1, 1) := by decide +kernel
theorem d_T_takeOut_73 : decode b_T_takeOut 73 = .ok (.isub, 1) := by decide +kernel
theorem d_T_takeOut_74 : decode b_T_takeOut 74 = .ok (.putfield 38, 3) := by decide +kernel
theorem d_T_takeOut_77 : decode b_T_takeOut 77 = .ok (.aload_n 0, 1) := by decide +kernel
theorem d_T_takeOut_78 : decode b_T_takeOut 78 = .ok (.getfield 11, 3) := by decide +kernel
theorem d_T_takeOut_81 : decode b_T_takeOut 81 = .ok (.aload_n 0, 1) := by decide +kernel
theorem d_T_takeOut_82 : decode b_T_takeOut 82 = .ok (.getfield 38, 3) := by decide +kernel
theorem d_T_takeOut_85 : decode b_T_takeOut 85 = .ok (.aload_n 3, 1) := by decide +kernel
theorem d_T_takeOut_86 : decode b_T_takeOut 86 = .ok (.aastore, 1) := by decide +kernel
theorem d_T_takeOut_87 : decode b_T_takeOut 87 = .ok (.iconst 1, 1) := by decide +kernel
theorem d_T_takeOut_88 : decode b_T_takeOut 88 = .ok (.ireturn, 1) := by decide +kernel
theorem d_X_act_0 : decode b_X_act 0 = .ok (.aload_n 0, 1) := by decide +kernel
theorem d_X_act_1 : decode b_X_act 1 = .ok (.iload_n 1, 1) := by decide +kernel
theorem d_X_act_2 : decode b_X_act 2 = .ok (.invokevirtual 149, 3) := by decide +kernel
theorem d_X_act_5 : decode b_X_act 5 = .ok (.ifCond .ne 13, 3) := by decide +kernel
theorem d_X_act_8 : decode b_X_act 8 = .ok (.new 90, 3) := by decide +kernel
theorem d_X_act_11 : decode b_X_act 11 = .ok (.dup, 1) := by decide +kernel
theorem d_X_act_12 : decode b_X_act 12 = .ok (.ldc 152, 2) := by decide +kernel
theorem d_X_act_14 : decode b_X_act 14 = .ok (.invokespecial 94, 3) := by decide +kernel
theorem d_X_act_17 : decode b_X_act 17 = .ok (.athrow, 1) := by decide +kernel
theorem d_X_act_18 : decode b_X_act 18 = .ok (.aload_n 0, 1) := by decide +kernel
theorem d_X_act_19 : decode b_X_act 19 = .ok (.iconst 0, 1) := by decide +kernel
theorem d_X_act_20 : decode b_X_act 20 = .ok (.putfield 59, 3) := by decide +kernel
theorem d_X_act_23 : decode b_X_act 23 = .ok (.aload_n 0, 1) := by decide +kernel
theorem d_X_act_24 : decode b_X_act 24 = .ok (.iconst 0, 1) := by decide +kernel
theorem d_X_act_25 : decode b_X_act 25 = .ok (.putfield 62, 3) := by decide +kernel
theorem d_X_act_28 : decode b_X_act 28 = .ok (.aload_n 0, 1) := by decide +kernel
theorem d_X_act_29 : decode b_X_act 29 = .ok (.getfield 31, 3) := by decide +kernel
theorem d_X_act_32 : decode b_X_act 32 = .ok (.iload_n 1, 1) := by decide +kernel
theorem d_X_act_33 : decode b_X_act 33 = .ok (.aaload, 1) := by decide +kernel
theorem d_X_act_34 : decode b_X_act 34 = .ok (.aload_n 0, 1) := by decide +kernel
theorem d_X_act_35 : decode b_X_act 35 = .ok (.getfield 10, 3) := by decide +kernel
theorem d_X_act_38 : decode b_X_act 38 = .ok (.invokevirtual 162, 3) := by decide +kernel
theorem d_X_act_41 : decode b_X_act 41 = .ok (.astore_n 2, 1) := by decide +kernel
theorem d_X_act_42 : decode b_X_act 42 = .ok (.aload_n 2, 1) := by decide +kernel
theorem d_X_act_43 : decode b_X_act 43 = .ok (.ifnonnull 20, 3) := by decide +kernel
theorem d_X_act_46 : decode b_X_act 46 = .ok (.aload_n 0, 1) := by decide +kernel
theorem d_X_act_47 : decode b_X_act 47 = .ok (.aload_n 0, 1) := by decide +kernel
theorem d_X_act_48 : decode b_X_act 48 = .ok (.getfield 31, 3) := by decide +kernel
theorem d_X_act_51 : decode b_X_act 51 = .ok (.iload_n 1, 1) := by decide +kernel
theorem d_X_act_52 : decode b_X_act 52 = .ok (.aaload, 1) := by decide +kernel
theorem d_X_act_53 : decode b_X_act 53 = .ok (.getfield 166, 3) := by decide +kernel
theorem d_X_act_56 : decode b_X_act 56 = .ok (.iconst 0, 1) := by decide +kernel
theorem d_X_act_57 : decode b_X_act 57 = .ok (.iconst 0, 1) := by decide +kernel
theorem d_X_act_58 : decode b_X_act 58 = .ok (.invokevirtual 169, 3) := by decide +kernel
theorem d_X_act_61 : decode b_X_act 61 = .ok (.iconst 0, 1) := by decide +kernel
theorem d_X_act_62 : decode b_X_act 62 = .ok (.ireturn, 1) := by decide +kernel
theorem d_X_act_63 : decode b_X_act 63 = .ok (.aload_n 0, 1) := by decide +kernel
theorem d_X_act_64 : decode b_X_act 64 = .ok (.aload_n 2, 1) := by decide +kernel
theorem d_X_act_65 : decode b_X_act 65 = .ok (.getfield 173, 3) := by decide +kernel
theorem d_X_act_68 : decode b_X_act 68 = .ok (.aload_n 2, 1) := by decide +kernel
theorem d_X_act_69 : decode b_X_act 69 = .ok (.getfield 178, 3) := by decide +kernel
theorem d_X_act_72 : decode b_X_act 72 = .ok (.aload_n 2, 1) := by decide +kernel
theorem d_X_act_73 : decode b_X_act 73 = .ok (.getfield 181, 3) := by decide +kernel
theorem d_X_act_76 : decode b_X_act 76 = .ok (.invokevirtual 169, 3) := by decide +kernel
theorem d_X_act_79 : decode b_X_act 79 = .ok (.iconst 1, 1) := by decide +kernel
theorem d_X_act_80 : decode b_X_act 80 = .ok (.ireturn, 1) := by decide +kernel
theorem d_X_doAction_0 : decode b_X_doAction 0 = .ok (.aload_n 0, 1) := by decide +kernel
theorem d_X_doAction_1 : decode b_X_doAction 1 = .ok (.iload_n 1, 1) := by decide +kernel
theorem d_X_doAction_2 : decode b_X_doAction 2 = .ok (.invokevirtual 107, 3) := by decide +kernel
theorem d_X_doAction_5 : decode b_X_doAction 5 = .ok (.ifCond .ne 4, 3) := by decide +kernel
theorem d_X_doAction_8 : decode b_X_doAction 8 = .ok (.return_, 1) := by decide +kernel
theorem d_X_doAction_9 : decode b_X_doAction 9 = .ok (.aload_n 0, 1) := by decide +kernel
theorem d_X_doAction_10 : decode b_X_doAction 10 = .ok (.getfield 25, 3) := by decide +kernel
theorem d_X_doAction_13 : decode b_X_doAction 13 = .ok (.iload_n 1, 1) := by decide +kernel
theorem d_X_doAction_14 : decode b_X_doAction 14 = .ok (.aaload, 1) := by decide +kernel
theorem d_X_doAction_15 : decode b_X_doAction 15 = .ok (.astore 4, 2) := by decide +kernel
theorem d_X_doAction_17 : decode b_X_doAction 17 = .ok (.iconst 0, 1) := by decide +kernel
theorem d_X_doAction_18 : decode b_X_doAction 18 = .ok (.istore 5, 2) := by decide +kernel
theorem d_X_doAction_20 : decode b_X_doAction 20 = .ok (.iload 5, 2) := by decide +kernel
theorem d_X_doAction_22 : decode b_X_doAction 22 = .ok (.aload 4, 2) := by decide +kernel
theorem d_X_doAction_24 : decode b_X_doAction 24 = .ok (.getfield 196, 3) := by decide +kernel
theorem d_X_doAction_27 : decode b_X_doAction 27 = .ok (.if_icmp .ge 29, 3) := by decide +kernel
theorem d_X_doAction_30 : decode b_X_doAction 30 = .ok (.iload 5, 2) := by decide +kernel
theorem d_X_doAction_32 : decode b_X_doAction 32 = .ok (.iconst 4, 1) := by decide +kernel
theorem d_X_doAction_33 : decode b_X_doAction 33 = .ok (.if_icmp .ge 23, 3) := by decide +kernel
theorem d_X_doAction_36 : decode b_X_doAction 36 = .ok (.aload_n 0, 1) := by decide +kernel
theorem d_X_doAction_37 : decode b_X_doAction 37 = .ok (.aload 4, 2) := by decide +kernel
theorem d_X_doAction_39 : decode b_X_doAction 39 = .ok (.getfield 197, 3) := by decide +kernel
theorem d_X_doAction_42 : decode b_X_doAction 42 = .ok (.iload 5, 2) := by decide +kernel
theorem d_X_doAction_44 : decode b_X_doAction 44 = .ok (.aaload, 1) := by decide +kernel
theorem d_X_doAction_45 : decode b_X_doAction 45 = .ok (.iload_n 2, 1) := by decide +kernel
theorem d_X_doAction_46 : decode b_X_doAction 46 = .ok (.iload_n 3, 1) := by decide +kernel
theorem d_X_doAction_47 : decode b_X_doAction 47 = .ok (.invokevirtual 201, 3) := by decide +kernel
theorem d_X_doAction_50 : decode b_X_doAction 50 = .ok (.iinc 5 1, 3) := by decide +kernel
theorem d_X_doAction_53 : decode b_X_doAction 53 = .ok (.goto (-33), 3) := by decide +kernel
theorem d_X_doAction_56 : decode b_X_doAction 56 = .ok (.return_, 1) := by decide +kernel
theorem d_X_doOne_0 : decode b_X_doOne 0 = .ok (.aload_n 1, 1) := by decide +kernel
theorem d_X_doOne_1 : decode b_X_doOne 1 = .ok (.getfield 205, 3) := by decide +kernel
theorem d_X_doOne_4 : decode b_X_doOne 4 = .ok (.tableswitch 260 0 8 #[52, 70, 95, 137, 163, 174, 193, 201, 227], 52) := by decide +kernel
theorem d_X_doOne_56 : decode b_X_doOne 56 = .ok (.aload_n 0, 1) := by decide +kernel
theorem d_X_doOne_57 : decode b_X_doOne 57 = .ok (.getfield 10, 3) := by decide +kernel
theorem d_X_doOne_60 : decode b_X_doOne 60 = .ok (.aload_n 1, 1) := by decide +kernel
theorem d_X_doOne_61 : decode b_X_doOne 61 = .ok (.getfield 210, 3) := by decide +kernel
theorem d_X_doOne_64 : decode b_X_doOne 64 = .ok (.aload_n 1, 1) := by decide +kernel
theorem d_X_doOne_65 : decode b_X_doOne 65 = .ok (.getfield 213, 3) := by decide +kernel
theorem d_X_doOne_68 : decode b_X_doOne 68 = .ok (.invokevirtual 95, 3) := by decide +kernel
theorem d_X_doOne_71 : decode b_X_doOne 71 = .ok (.goto 193, 3) := by decide +kernel
theorem d_X_doOne_74 : decode b_X_doOne 74 = .ok (.aload_n 0, 1) := by decide +kernel
theorem d_X_doOne_75 : decode b_X_doOne 75 = .ok (.getfield 10, 3) := by decide +kernel
theorem d_X_doOne_78 : decode b_X_doOne 78 = .ok (.aload_n 1, 1) := by decide +kernel
theorem d_X_doOne_79 : decode b_X_doOne 79 = .ok (.getfield 210, 3) := by decide +kernel
theorem d_X_doOne_82 : decode b_X_doOne 82 = .ok (.aload_n 0, 1) := by decide +kernel
theorem d_X_doOne_83 : decode b_X_doOne 83 = .ok (.getfield 10, 3) := by decide +kernel
theorem d_X_doOne_86 : decode b_X_doOne 86 = .ok (.aload_n 1, 1) := by decide +kernel
theorem d_X_doOne_87 : decode b_X_doOne 87 = .ok (.getfield 213, 3) := by decide +kernel
theorem d_X_doOne_90 : decode b_X_doOne 90 = .ok (.invokevirtual 99, 3) := by decide +kernel
theorem d_X_doOne_93 : decode b_X_doOne 93 = .ok (.invokevirtual 95, 3) := by decide +kernel
theorem d_X_doOne_96 : decode b_X_doOne 96 = .ok (.goto 168, 3) := by decide +kernel
theorem d_X_doOne_99 : decode b_X_doOne 99 = .ok (.aload_n 0, 1) := by decide +kernel
theorem d_X_doOne_100 : decode b_X_doOne 100 = .ok (.getfield 10, 3) := by decide +kernel
theorem d_X_doOne_103 : decode b_X_doOne 103 = .ok (.aload_n 1, 1) := by decide +kernel
theorem d_X_doOne_104 : decode b_X_doOne 104 = .ok (.getfield 210, 3) := by decide +kernel
theorem d_X_doOne_107 : decode b_X_doOne 107 = .ok (.aload_n 0, 1) := by decide +kernel
theorem d_X_doOne_108 : decode b_X_doOne 108 = .ok (.getfield 10, 3) := by decide +kernel
theorem d_X_doOne_111 : decode b_X_doOne 111 = .ok (.aload_n 1, 1) := by decide +kernel
theorem d_X_doOne_112 : decode b_X_doOne 112 = .ok (.getfield 210, 3) := by decide +kernel
theorem d_X_doOne_115 : decode b_X_doOne 115 = .ok (.invokevirtual 99, 3) := by decide +kernel
theorem d_X_doOne_118 : decode b_X_doOne 118 = .ok (.aload_n 0, 1) := by decide +kernel
theorem d_X_doOne_119 : decode b_X_doOne 119 = .ok (.getfield 10, 3) := by decide +kernel
theorem d_X_doOne_122 : decode b_X_doOne 122 = .ok (.aload_n 1, 1) := by decide +kernel
theorem d_X_doOne_123 : decode b_X_doOne 123 = .ok (.getfield 213, 3) := by decide +kernel
theorem d_X_doOne_126 : decode b_X_doOne 126 = .ok (.invokevirtual 99, 3) := by decide +kernel
theorem d_X_doOne_129 : decode b_X_doOne 129 = .ok (.iadd, 1) := by decide +kernel
theorem d_X_doOne_130 : decode b_X_doOne 130 = .ok (.aload_n 1, 1) := by decide +kernel
theorem d_X_doOne_131 : decode b_X_doOne 131 = .ok (.getfield 216, 3) := by decide +kernel
theorem d_X_doOne_134 : decode b_X_doOne 134 = .ok (.iadd, 1) := by decide +kernel
theorem d_X_doOne_135 : decode b_X_doOne 135 = .ok (.invokevirtual 95, 3) := by decide +kernel
theorem d_X_doOne_138 : decode b_X_doOne 138 = .ok (.goto 126, 3) := by decide +kernel
theorem d_X_doOne_141 : decode b_X_doOne 141 = .ok (.aload_n 0, 1) := by decide +kernel
theorem d_X_doOne_142 : decode b_X_doOne 142 = .ok (.getfield 10, 3) := by decide +kernel
theorem d_X_doOne_145 : decode b_X_doOne 145 = .ok (.aload_n 1, 1) := by decide +kernel
theorem d_X_doOne_146 : decode b_X_doOne 146 = .ok (.getfield 210, 3) := by decide +kernel
theorem d_X_doOne_149 : decode b_X_doOne 149 = .ok (.aload_n 1, 1) := by decide +kernel
theorem d_X_doOne_150 : decode b_X_doOne 150 = .ok (.getfield 213, 3) := by decide +kernel
theorem d_X_doOne_153 : decode b_X_doOne 153 = .ok (.ifCond .ne 7, 3) := by decide +kernel
theorem d_X_doOne_156 : decode b_X_doOne 156 = .ok (.iload_n 2, 1) := by decide +kernel
theorem d_X_doOne_157 : decode b_X_doOne 157 = .ok (.goto 4, 3) := by decide +kernel
theorem d_X_doOne_160 : decode b_X_doOne 160 = .ok (.iload_n 3, 1) := by decide +kernel
theorem d_X_doOne_161 : decode b_X_doOne 161 = .ok (.invokevirtual 95, 3) := by decide +kernel
theorem d_X_doOne_164 : decode b_X_doOne 164 = .ok (.goto 100, 3) := by decide +kernel
theorem d_X_doOne_167 : decode b_X_doOne 167 = .ok (.aload_n 0, 1) := by decide +kernel
theorem d_X_doOne_168 : decode b_X_doOne 168 = .ok (.aload_n 1, 1) := by decide +kernel
theorem d_X_doOne_169 : decode b_X_doOne 169 = .ok (.getfield 213, 3) := by decide +kernel
theorem d_X_doOne_172 : decode b_X_doOne 172 = .ok (.putfield 59, 3) := by decide +kernel
theorem d_X_doOne_175 : decode b_X_doOne 175 = .ok (.goto 89, 3) := by decide +kernel
theorem d_X_doOne_178 : decode b_X_doOne 178 = .ok (.aload_n 0, 1) := by decide +kernel
theorem d_X_doOne_179 : decode b_X_doOne 179 = .ok (.aload_n 1, 1) := by decide +kernel
theorem d_X_doOne_180 : decode b_X_doOne 180 = .ok (.getfield 213, 3) := by decide +kernel
theorem d_X_doOne_183 : decode b_X_doOne 183 = .ok (.ifCond .ne 7, 3) := by decide +kernel
theorem d_X_doOne_186 : decode b_X_doOne 186 = .ok (.iload_n 2, 1) := by decide +kernel
theorem d_X_doOne_187 : decode b_X_doOne 187 = .ok (.goto 4, 3) := by decide +kernel
theorem d_X_doOne_190 : decode b_X_doOne 190 = .ok (.iload_n 3, 1) := by decide +kernel
theorem d_X_doOne_191 : decode b_X_doOne 191 = .ok (.putfield 59, 3) := by decide +kernel
theorem d_X_doOne_194 : decode b_X_doOne 194 = .ok (.goto 70, 3) := by decide +kernel
theorem d_X_doOne_197 : decode b_X_doOne 197 = .ok (.aload_n 0, 1) := by decide +kernel
theorem d_X_doOne_198 : decode b_X_doOne 198 = .ok (.iconst 1, 1) := by decide +kernel
theorem d_X_doOne_199 : decode b_X_doOne 199 = .ok (.putfield 62, 3) := by decide +kernel
theorem d_X_doOne_202 : decode b_X_doOne 202 = .ok (.goto 62, 3) := by decide +kernel
theorem d_X_doOne_205 : decode b_X_doOne 205 = .ok (.aload_n 0, 1) := by decide +kernel
theorem d_X_doOne_206 : decode b_X_doOne 206 = .ok (.getfield 19, 3) := by decide +kernel
theorem d_X_doOne_209 : decode b_X_doOne 209 = .ok (.aload_n 1, 1) := by decide +kernel
theorem d_X_doOne_210 : decode b_X_doOne 210 = .ok (.getfield 210, 3) := by decide +kernel
theorem d_X_doOne_213 : decode b_X_doOne 213 = .ok (.aload_n 0, 1) := by decide +kernel
theorem d_X_doOne_214 : decode b_X_doOne 214 = .ok (.aload_n 1, 1) := by decide +kernel
theorem d_X_doOne_215 : decode b_X_doOne 215 = .ok (.getfield 213, 3) := by decide +kernel
theorem d_X_doOne_218 : decode b_X_doOne 218 = .ok (.invokevirtual 219, 3) := by decide +kernel
theorem d_X_doOne_221 : decode b_X_doOne 221 = .ok (.aload_n 1, 1) := by decide +kernel
theorem d_X_doOne_222 : decode b_X_doOne 222 = .ok (.getfield 216, 3) := by decide +kernel
theorem d_X_doOne_225 : decode b_X_doOne 225 = .ok (.invokevirtual 222, 3) := by decide +kernel
theorem d_X_doOne_228 : decode b_X_doOne 228 = .ok (.goto 36, 3) := by decide +kernel
theorem d_X_doOne_231 : decode b_X_doOne 231 = .ok (.aload_n 0, 1) := by decide +kernel
theorem d_X_doOne_232 : decode b_X_doOne 232 = .ok (.getfield 10, 3) := by decide +kernel
theorem d_X_doOne_235 : decode b_X_doOne 235 = .ok (.aload_n 1, 1) := by decide +kernel
theorem d_X_doOne_236 : decode b_X_doOne 236 = .ok (.getfield 210, 3) := by decide +kernel
theorem d_X_doOne_239 : decode b_X_doOne 239 = .ok (.aload_n 0, 1) := by decide +kernel
theorem d_X_doOne_240 : decode b_X_doOne 240 = .ok (.getfield 19, 3) := by decide +kernel
theorem d_X_doOne_243 : decode b_X_doOne 243 = .ok (.aload_n 1, 1) := by decide +kernel
theorem d_X_doOne_244 : decode b_X_doOne 244 = .ok (.getfield 216, 3) := by decide +kernel
theorem d_X_doOne_247 : decode b_X_doOne 247 = .ok (.aload_n 0, 1) := by decide +kernel
theorem d_X_doOne_248 : decode b_X_doOne 248 = .ok (.aload_n 1, 1) := by decide +kernel
theorem d_X_doOne_249 : decode b_X_doOne 249 = .ok (.getfield 213, 3) := by decide +kernel
theorem d_X_doOne_252 : decode b_X_doOne 252 = .ok (.invokevirtual 219, 3) := by decide +kernel
theorem d_X_doOne_255 : decode b_X_doOne 255 = .ok (.invokevirtual 184, 3) := by decide +kernel
theorem d_X_doOne_258 : decode b_X_doOne 258 = .ok (.invokevirtual 95, 3) := by decide +kernel
theorem d_X_doOne_261 : decode b_X_doOne 261 = .ok (.goto 3, 3) := by decide +kernel
theorem d_X_doOne_264 : decode b_X_doOne 264 = .ok (.return_, 1) := by decide +kernel
theorem d_X_wordNumber_0 : decode b_X_wordNumber 0 = .ok (.aload_n 0, 1) := by decide +kernel
theorem d_X_wordNumber_1 : decode b_X_wordNumber 1 = .ok (.getfield 10, 3) := by decide +kernel
theorem d_X_wordNumber_4 : decode b_X_wordNumber 4 = .ok (.iload_n 1, 1) := by decide +kernel
theorem d_X_wordNumber_5 : decode b_X_wordNumber 5 = .ok (.invokevirtual 99, 3) := by decide +kernel
theorem d_X_wordNumber_8 : decode b_X_wordNumber 8 = .ok (.bipush 16, 2) := by decide +kernel
theorem d_X_wordNumber_10 : decode b_X_wordNumber 10 = .ok (.invokestatic 225, 3) := by decide +kernel
theorem d_X_wordNumber_13 : decode b_X_wordNumber 13 = .ok (.ireturn, 1) := by decide +kernel
theorem d_JM_floorMod_0 : decode b_JM_floorMod 0 = .ok (.iload_n 0, 1) := by decide +kernel
theorem d_JM_floorMod_1 : decode b_JM_floorMod 1 = .ok (.iload_n 1, 1) := by decide +kernel
theorem d_JM_floorMod_2 : decode b_JM_floorMod 2 = .ok (.irem, 1) := by decide +kernel
theorem d_JM_floorMod_3 : decode b_JM_floorMod 3 = .ok (.istore_n 2, 1) := by decide +kernel
theorem d_JM_floorMod_4 : decode b_JM_floorMod 4 = .ok (.iload_n 0, 1) := by decide +kernel
theorem d_JM_floorMod_5 : decode b_JM_floorMod 5 = .ok (.iload_n 1, 1) := by decide +kernel
theorem d_JM_floorMod_6 : decode b_JM_floorMod 6 = .ok (.ixor, 1) := by decide +kernel
theorem d_JM_floorMod_7 : decode b_JM_floorMod 7 = .ok (.ifCond .ge 11, 3) := by decide +kernel
theorem d_JM_floorMod_10 : decode b_JM_floorMod 10 = .ok (.iload_n 2, 1) := by decide +kernel
theorem d_JM_floorMod_11 : decode b_JM_floorMod 11 = .ok (.ifCond .eq 7, 3) := by decide +kernel
theorem d_JM_floorMod_14 : decode b_JM_floorMod 14 = .ok (.iload_n 2, 1) := by decide +kernel
theorem d_JM_floorMod_15 : decode b_JM_floorMod 15 = .ok (.iload_n 1, 1) := by decide +kernel
theorem d_JM_floorMod_16 : decode b_JM_floorMod 16 = .ok (.iadd, 1) := by decide +kernel
theorem d_JM_floorMod_17 : decode b_JM_floorMod 17 = .ok (.ireturn, 1) := by decide +kernel
theorem d_JM_floorMod_18 : decode b_JM_floorMod 18 = .ok (.iload_n 2, 1) := by decide +kernel
theorem d_JM_floorMod_19 : decode b_JM_floorMod 19 = .ok (.ireturn, 1) := by decide +kernel
theorem d_C_grow_0 : decode b_C_grow 0 = .ok (.iload_n 1, 1) := by decide +kernel
theorem d_C_grow_1 : decode b_C_grow 1 = .ok (.iload_n 2, 1) := by decide +kernel
theorem d_C_grow_2 : decode b_C_grow 2 = .ok (.invokestatic 25, 3) := by decide +kernel
theorem d_C_grow_5 : decode b_C_grow 5 = .ok (.ifCond .eq 18, 3) := by decide +kernel
theorem d_C_grow_8 : decode b_C_grow 8 = .ok (.aload_n 0, 1) := by decide +kernel
theorem d_C_grow_9 : decode b_C_grow 9 = .ok (.getfield 9, 3) := by decide +kernel
theorem d_C_grow_12 : decode b_C_grow 12 = .ok (.iload_n 1, 1) := by decide +kernel
theorem d_C_grow_13 : decode b_C_grow 13 = .ok (.bipush 16, 2) := by decide +kernel
theorem d_C_grow_15 : decode b_C_grow 15 = .ok (.imul, 1) := by decide +kernel
theorem d_C_grow_16 : decode b_C_grow 16 = .ok (.iload_n 2, 1) := by decide +kernel
theorem d_C_grow_17 : decode b_C_grow 17 = .ok (.iadd, 1) := by decide +kernel
theorem d_C_grow_18 : decode b_C_grow 18 = .ok (.dup2, 1) := by decide +kernel
theorem d_C_grow_19 : decode b_C_grow 19 = .ok (.iaload, 1) := by decide +kernel
theorem d_C_grow_20 : decode b_C_grow 20 = .ok (.iload_n 3, 1) := by decide +kernel
theorem d_C_grow_21 : decode b_C_grow 21 = .ok (.iadd, 1) := by decide +kernel
theorem d_C_grow_22 : decode b_C_grow 22 = .ok (.iastore, 1) := by decide +kernel
theorem d_C_grow_23 : decode b_C_grow 23 = .ok (.return_, 1) := by decide +kernel
