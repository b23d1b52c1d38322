/-! Decoded instructions, by program (wip/gen/names.py). -/
theorem d_M_init_0 : decode b_M_init 0 = .ok (.aload_n 0, 1) := by decide +kernel
theorem d_M_init_1 : decode b_M_init 1 = .ok (.invokespecial 1, 3) := by decide +kernel
theorem d_M_init_4 : decode b_M_init 4 = .ok (.aload_n 0, 1) := by decide +kernel
theorem d_M_init_5 : decode b_M_init 5 = .ok (.iconst 0, 1) := by decide +kernel
theorem d_M_init_6 : decode b_M_init 6 = .ok (.putfield 7, 3) := by decide +kernel
theorem d_M_init_9 : decode b_M_init 9 = .ok (.aload_n 0, 1) := by decide +kernel
theorem d_M_init_10 : decode b_M_init 10 = .ok (.iconst 0, 1) := by decide +kernel
theorem d_M_init_11 : decode b_M_init 11 = .ok (.putfield 13, 3) := by decide +kernel
theorem d_M_init_14 : decode b_M_init 14 = .ok (.aload_n 0, 1) := by decide +kernel
theorem d_M_init_15 : decode b_M_init 15 = .ok (.bipush 16, 2) := by decide +kernel
theorem d_M_init_17 : decode b_M_init 17 = .ok (.newarray .int, 2) := by decide +kernel
theorem d_M_init_19 : decode b_M_init 19 = .ok (.putfield 16, 3) := by decide +kernel
theorem d_M_init_22 : decode b_M_init 22 = .ok (.aload_n 0, 1) := by decide +kernel
theorem d_M_init_23 : decode b_M_init 23 = .ok (.bipush 16, 2) := by decide +kernel
theorem d_M_init_25 : decode b_M_init 25 = .ok (.newarray .int, 2) := by decide +kernel
theorem d_M_init_27 : decode b_M_init 27 = .ok (.putfield 20, 3) := by decide +kernel
theorem d_M_init_30 : decode b_M_init 30 = .ok (.aload_n 0, 1) := by decide +kernel
theorem d_M_init_31 : decode b_M_init 31 = .ok (.iconst 0, 1) := by decide +kernel
theorem d_M_init_32 : decode b_M_init 32 = .ok (.putfield 23, 3) := by decide +kernel
theorem d_M_init_35 : decode b_M_init 35 = .ok (.aload_n 0, 1) := by decide +kernel
theorem d_M_init_36 : decode b_M_init 36 = .ok (.bipush 16, 2) := by decide +kernel
theorem d_M_init_38 : decode b_M_init 38 = .ok (.newarray .int, 2) := by decide +kernel
theorem d_M_init_40 : decode b_M_init 40 = .ok (.putfield 26, 3) := by decide +kernel
theorem d_M_init_43 : decode b_M_init 43 = .ok (.aload_n 0, 1) := by decide +kernel
theorem d_M_init_44 : decode b_M_init 44 = .ok (.sipush 256, 3) := by decide +kernel
theorem d_M_init_47 : decode b_M_init 47 = .ok (.newarray .int, 2) := by decide +kernel
theorem d_M_init_49 : decode b_M_init 49 = .ok (.putfield 29, 3) := by decide +kernel
theorem d_M_init_52 : decode b_M_init 52 = .ok (.aload_n 0, 1) := by decide +kernel
theorem d_M_init_53 : decode b_M_init 53 = .ok (.bipush 64, 2) := by decide +kernel
theorem d_M_init_55 : decode b_M_init 55 = .ok (.newarray .int, 2) := by decide +kernel
theorem d_M_init_57 : decode b_M_init 57 = .ok (.putfield 32, 3) := by decide +kernel
theorem d_M_init_60 : decode b_M_init 60 = .ok (.aload_n 0, 1) := by decide +kernel
theorem d_M_init_61 : decode b_M_init 61 = .ok (.iconst 0, 1) := by decide +kernel
theorem d_M_init_62 : decode b_M_init 62 = .ok (.putfield 35, 3) := by decide +kernel
theorem d_M_init_65 : decode b_M_init 65 = .ok (.aload_n 0, 1) := by decide +kernel
theorem d_M_init_66 : decode b_M_init 66 = .ok (.bipush 8, 2) := by decide +kernel
theorem d_M_init_68 : decode b_M_init 68 = .ok (.newarray .int, 2) := by decide +kernel
theorem d_M_init_70 : decode b_M_init 70 = .ok (.putfield 38, 3) := by decide +kernel
theorem d_M_init_73 : decode b_M_init 73 = .ok (.aload_n 0, 1) := by decide +kernel
theorem d_M_init_74 : decode b_M_init 74 = .ok (.bipush 8, 2) := by decide +kernel
theorem d_M_init_76 : decode b_M_init 76 = .ok (.newarray .int, 2) := by decide +kernel
theorem d_M_init_78 : decode b_M_init 78 = .ok (.putfield 41, 3) := by decide +kernel
theorem d_M_init_81 : decode b_M_init 81 = .ok (.aload_n 0, 1) := by decide +kernel
theorem d_M_init_82 : decode b_M_init 82 = .ok (.bipush 8, 2) := by decide +kernel
theorem d_M_init_84 : decode b_M_init 84 = .ok (.newarray .int, 2) := by decide +kernel
theorem d_M_init_86 : decode b_M_init 86 = .ok (.putfield 44, 3) := by decide +kernel
theorem d_M_init_89 : decode b_M_init 89 = .ok (.aload_n 0, 1) := by decide +kernel
theorem d_M_init_90 : decode b_M_init 90 = .ok (.bipush 8, 2) := by decide +kernel
theorem d_M_init_92 : decode b_M_init 92 = .ok (.newarray .int, 2) := by decide +kernel
theorem d_M_init_94 : decode b_M_init 94 = .ok (.putfield 47, 3) := by decide +kernel
theorem d_M_init_97 : decode b_M_init 97 = .ok (.aload_n 0, 1) := by decide +kernel
theorem d_M_init_98 : decode b_M_init 98 = .ok (.bipush 8, 2) := by decide +kernel
theorem d_M_init_100 : decode b_M_init 100 = .ok (.newarray .int, 2) := by decide +kernel
theorem d_M_init_102 : decode b_M_init 102 = .ok (.putfield 50, 3) := by decide +kernel
theorem d_M_init_105 : decode b_M_init 105 = .ok (.aload_n 0, 1) := by decide +kernel
theorem d_M_init_106 : decode b_M_init 106 = .ok (.bipush 8, 2) := by decide +kernel
theorem d_M_init_108 : decode b_M_init 108 = .ok (.newarray .int, 2) := by decide +kernel
theorem d_M_init_110 : decode b_M_init 110 = .ok (.putfield 53, 3) := by decide +kernel
theorem d_M_init_113 : decode b_M_init 113 = .ok (.aload_n 0, 1) := by decide +kernel
theorem d_M_init_114 : decode b_M_init 114 = .ok (.sipush 1280, 3) := by decide +kernel
theorem d_M_init_117 : decode b_M_init 117 = .ok (.newarray .int, 2) := by decide +kernel
theorem d_M_init_119 : decode b_M_init 119 = .ok (.putfield 56, 3) := by decide +kernel
theorem d_M_init_122 : decode b_M_init 122 = .ok (.aload_n 0, 1) := by decide +kernel
theorem d_M_init_123 : decode b_M_init 123 = .ok (.iconst 4, 1) := by decide +kernel
theorem d_M_init_124 : decode b_M_init 124 = .ok (.newarray .int, 2) := by decide +kernel
theorem d_M_init_126 : decode b_M_init 126 = .ok (.putfield 59, 3) := by decide +kernel
theorem d_M_init_129 : decode b_M_init 129 = .ok (.aload_n 0, 1) := by decide +kernel
theorem d_M_init_130 : decode b_M_init 130 = .ok (.bipush 8, 2) := by decide +kernel
theorem d_M_init_132 : decode b_M_init 132 = .ok (.newarray .int, 2) := by decide +kernel
theorem d_M_init_134 : decode b_M_init 134 = .ok (.putfield 62, 3) := by decide +kernel
theorem d_M_init_137 : decode b_M_init 137 = .ok (.aload_n 0, 1) := by decide +kernel
theorem d_M_init_138 : decode b_M_init 138 = .ok (.iconst 0, 1) := by decide +kernel
theorem d_M_init_139 : decode b_M_init 139 = .ok (.putfield 65, 3) := by decide +kernel
theorem d_M_init_142 : decode b_M_init 142 = .ok (.aload_n 0, 1) := by decide +kernel
theorem d_M_init_143 : decode b_M_init 143 = .ok (.iconst 0, 1) := by decide +kernel
theorem d_M_init_144 : decode b_M_init 144 = .ok (.putfield 68, 3) := by decide +kernel
theorem d_M_init_147 : decode b_M_init 147 = .ok (.return_, 1) := by decide +kernel
theorem d_M_thrown_0 : decode b_M_thrown 0 = .ok (.aload_n 0, 1) := by decide +kernel
theorem d_M_thrown_1 : decode b_M_thrown 1 = .ok (.getfield 7, 3) := by decide +kernel
theorem d_M_thrown_4 : decode b_M_thrown 4 = .ok (.ireturn, 1) := by decide +kernel
theorem d_M_clear_0 : decode b_M_clear 0 = .ok (.aload_n 0, 1) := by decide +kernel
theorem d_M_clear_1 : decode b_M_clear 1 = .ok (.iconst 0, 1) := by decide +kernel
theorem d_M_clear_2 : decode b_M_clear 2 = .ok (.putfield 7, 3) := by decide +kernel
theorem d_M_clear_5 : decode b_M_clear 5 = .ok (.aload_n 0, 1) := by decide +kernel
theorem d_M_clear_6 : decode b_M_clear 6 = .ok (.iconst 0, 1) := by decide +kernel
theorem d_M_clear_7 : decode b_M_clear 7 = .ok (.putfield 13, 3) := by decide +kernel
theorem d_M_clear_10 : decode b_M_clear 10 = .ok (.aload_n 0, 1) := by decide +kernel
theorem d_M_clear_11 : decode b_M_clear 11 = .ok (.iconst 0, 1) := by decide +kernel
theorem d_M_clear_12 : decode b_M_clear 12 = .ok (.putfield 23, 3) := by decide +kernel
theorem d_M_clear_15 : decode b_M_clear 15 = .ok (.aload_n 0, 1) := by decide +kernel
theorem d_M_clear_16 : decode b_M_clear 16 = .ok (.iconst 0, 1) := by decide +kernel
theorem d_M_clear_17 : decode b_M_clear 17 = .ok (.putfield 35, 3) := by decide +kernel
theorem d_M_clear_20 : decode b_M_clear 20 = .ok (.iconst 0, 1) := by decide +kernel
theorem d_M_clear_21 : decode b_M_clear 21 = .ok (.istore_n 1, 1) := by decide +kernel
theorem d_M_clear_22 : decode b_M_clear 22 = .ok (.iload_n 1, 1) := by decide +kernel
theorem d_M_clear_23 : decode b_M_clear 23 = .ok (.bipush 64, 2) := by decide +kernel
theorem d_M_clear_25 : decode b_M_clear 25 = .ok (.if_icmp .ge 16, 3) := by decide +kernel
theorem d_M_clear_28 : decode b_M_clear 28 = .ok (.aload_n 0, 1) := by decide +kernel
theorem d_M_clear_29 : decode b_M_clear 29 = .ok (.getfield 32, 3) := by decide +kernel
theorem d_M_clear_32 : decode b_M_clear 32 = .ok (.iload_n 1, 1) := by decide +kernel
theorem d_M_clear_33 : decode b_M_clear 33 = .ok (.iconst 0, 1) := by decide +kernel
theorem d_M_clear_34 : decode b_M_clear 34 = .ok (.iastore, 1) := by decide +kernel
theorem d_M_clear_35 : decode b_M_clear 35 = .ok (.iinc 1 1, 3) := by decide +kernel
theorem d_M_clear_38 : decode b_M_clear 38 = .ok (.goto (-16), 3) := by decide +kernel
theorem d_M_clear_41 : decode b_M_clear 41 = .ok (.iconst 0, 1) := by decide +kernel
theorem d_M_clear_42 : decode b_M_clear 42 = .ok (.istore_n 1, 1) := by decide +kernel
theorem d_M_clear_43 : decode b_M_clear 43 = .ok (.iload_n 1, 1) := by decide +kernel
theorem d_M_clear_44 : decode b_M_clear 44 = .ok (.iconst 4, 1) := by decide +kernel
theorem d_M_clear_45 : decode b_M_clear 45 = .ok (.if_icmp .ge 16, 3) := by decide +kernel
theorem d_M_clear_48 : decode b_M_clear 48 = .ok (.aload_n 0, 1) := by decide +kernel
theorem d_M_clear_49 : decode b_M_clear 49 = .ok (.getfield 59, 3) := by decide +kernel
theorem d_M_clear_52 : decode b_M_clear 52 = .ok (.iload_n 1, 1) := by decide +kernel
theorem d_M_clear_53 : decode b_M_clear 53 = .ok (.iconst 0, 1) := by decide +kernel
theorem d_M_clear_54 : decode b_M_clear 54 = .ok (.iastore, 1) := by decide +kernel
theorem d_M_clear_55 : decode b_M_clear 55 = .ok (.iinc 1 1, 3) := by decide +kernel
theorem d_M_clear_58 : decode b_M_clear 58 = .ok (.goto (-15), 3) := by decide +kernel
theorem d_M_clear_61 : decode b_M_clear 61 = .ok (.aload_n 0, 1) := by decide +kernel
theorem d_M_clear_62 : decode b_M_clear 62 = .ok (.iconst 0, 1) := by decide +kernel
theorem d_M_clear_63 : decode b_M_clear 63 = .ok (.putfield 65, 3) := by decide +kernel
theorem d_M_clear_66 : decode b_M_clear 66 = .ok (.aload_n 0, 1) := by decide +kernel
theorem d_M_clear_67 : decode b_M_clear 67 = .ok (.iconst 0, 1) := by decide +kernel
theorem d_M_clear_68 : decode b_M_clear 68 = .ok (.putfield 68, 3) := by decide +kernel
theorem d_M_clear_71 : decode b_M_clear 71 = .ok (.return_, 1) := by decide +kernel
theorem d_M_field_0 : decode b_M_field 0 = .ok (.aload_n 0, 1) := by decide +kernel
theorem d_M_field_1 : decode b_M_field 1 = .ok (.iload_n 1, 1) := by decide +kernel
theorem d_M_field_2 : decode b_M_field 2 = .ok (.iconst 1, 1) := by decide +kernel
theorem d_M_field_3 : decode b_M_field 3 = .ok (.if_icmp .lt 9, 3) := by decide +kernel
theorem d_M_field_6 : decode b_M_field 6 = .ok (.iload_n 1, 1) := by decide +kernel
theorem d_M_field_7 : decode b_M_field 7 = .ok (.bipush 32, 2) := by decide +kernel
theorem d_M_field_9 : decode b_M_field 9 = .ok (.if_icmp .le 7, 3) := by decide +kernel
theorem d_M_field_12 : decode b_M_field 12 = .ok (.iconst 1, 1) := by decide +kernel
theorem d_M_field_13 : decode b_M_field 13 = .ok (.goto 17, 3) := by decide +kernel
theorem d_M_field_16 : decode b_M_field 16 = .ok (.aload_n 0, 1) := by decide +kernel
theorem d_M_field_17 : decode b_M_field 17 = .ok (.getfield 13, 3) := by decide +kernel
theorem d_M_field_20 : decode b_M_field 20 = .ok (.bipush 16, 2) := by decide +kernel
theorem d_M_field_22 : decode b_M_field 22 = .ok (.if_icmp .ne 7, 3) := by decide +kernel
theorem d_M_field_25 : decode b_M_field 25 = .ok (.iconst 2, 1) := by decide +kernel
theorem d_M_field_26 : decode b_M_field 26 = .ok (.goto 4, 3) := by decide +kernel
theorem d_M_field_29 : decode b_M_field 29 = .ok (.iconst 0, 1) := by decide +kernel
theorem d_M_field_30 : decode b_M_field 30 = .ok (.putfield 7, 3) := by decide +kernel
theorem d_M_field_33 : decode b_M_field 33 = .ok (.aload_n 0, 1) := by decide +kernel
theorem d_M_field_34 : decode b_M_field 34 = .ok (.getfield 7, 3) := by decide +kernel
theorem d_M_field_37 : decode b_M_field 37 = .ok (.ifCond .eq 5, 3) := by decide +kernel
theorem d_M_field_40 : decode b_M_field 40 = .ok (.iconst 0, 1) := by decide +kernel
theorem d_M_field_41 : decode b_M_field 41 = .ok (.ireturn, 1) := by decide +kernel
theorem d_M_field_42 : decode b_M_field 42 = .ok (.aload_n 0, 1) := by decide +kernel
theorem d_M_field_43 : decode b_M_field 43 = .ok (.getfield 16, 3) := by decide +kernel
theorem d_M_field_46 : decode b_M_field 46 = .ok (.aload_n 0, 1) := by decide +kernel
theorem d_M_field_47 : decode b_M_field 47 = .ok (.getfield 13, 3) := by decide +kernel
theorem d_M_field_50 : decode b_M_field 50 = .ok (.iload_n 1, 1) := by decide +kernel
theorem d_M_field_51 : decode b_M_field 51 = .ok (.iastore, 1) := by decide +kernel
theorem d_M_field_52 : decode b_M_field 52 = .ok (.aload_n 0, 1) := by decide +kernel
theorem d_M_field_53 : decode b_M_field 53 = .ok (.getfield 20, 3) := by decide +kernel
theorem d_M_field_56 : decode b_M_field 56 = .ok (.aload_n 0, 1) := by decide +kernel
theorem d_M_field_57 : decode b_M_field 57 = .ok (.getfield 13, 3) := by decide +kernel
theorem d_M_field_60 : decode b_M_field 60 = .ok (.iconst 0, 1) := by decide +kernel
theorem d_M_field_61 : decode b_M_field 61 = .ok (.iastore, 1) := by decide +kernel
theorem d_M_field_62 : decode b_M_field 62 = .ok (.aload_n 0, 1) := by decide +kernel
theorem d_M_field_63 : decode b_M_field 63 = .ok (.dup, 1) := by decide +kernel
theorem d_M_field_64 : decode b_M_field 64 = .ok (.getfield 13, 3) := by decide +kernel
theorem d_M_field_67 : decode b_M_field 67 = .ok (.iconst 1, 1) := by decide +kernel
theorem d_M_field_68 : decode b_M_field 68 = .ok (.iadd, 1) := by decide +kernel
theorem d_M_field_69 : decode b_M_field 69 = .ok (.putfield 13, 3) := by decide +kernel
theorem d_M_field_72 : decode b_M_field 72 = .ok (.aload_n 0, 1) := by decide +kernel
theorem d_M_field_73 : decode b_M_field 73 = .ok (.getfield 13, 3) := by decide +kernel
theorem d_M_field_76 : decode b_M_field 76 = .ok (.iconst 1, 1) := by decide +kernel
theorem d_M_field_77 : decode b_M_field 77 = .ok (.isub, 1) := by decide +kernel
theorem d_M_field_78 : decode b_M_field 78 = .ok (.ireturn, 1) := by decide +kernel
theorem d_M_set_0 : decode b_M_set 0 = .ok (.aload_n 0, 1) := by decide +kernel
theorem d_M_set_1 : decode b_M_set 1 = .ok (.iload_n 1, 1) := by decide +kernel
theorem d_M_set_2 : decode b_M_set 2 = .ok (.aload_n 0, 1) := by decide +kernel
theorem d_M_set_3 : decode b_M_set 3 = .ok (.getfield 13, 3) := by decide +kernel
theorem d_M_set_6 : decode b_M_set 6 = .ok (.invokestatic 91, 3) := by decide +kernel
theorem d_M_set_9 : decode b_M_set 9 = .ok (.ifCond .eq 7, 3) := by decide +kernel
theorem d_M_set_12 : decode b_M_set 12 = .ok (.iconst 1, 1) := by decide +kernel
theorem d_M_set_13 : decode b_M_set 13 = .ok (.goto 4, 3) := by decide +kernel
theorem d_M_set_16 : decode b_M_set 16 = .ok (.iconst 0, 1) := by decide +kernel
theorem d_M_set_17 : decode b_M_set 17 = .ok (.putfield 7, 3) := by decide +kernel
theorem d_M_set_20 : decode b_M_set 20 = .ok (.aload_n 0, 1) := by decide +kernel
theorem d_M_set_21 : decode b_M_set 21 = .ok (.getfield 7, 3) := by decide +kernel
theorem d_M_set_24 : decode b_M_set 24 = .ok (.ifCond .ne 9, 3) := by decide +kernel
theorem d_M_set_27 : decode b_M_set 27 = .ok (.aload_n 0, 1) := by decide +kernel
theorem d_M_set_28 : decode b_M_set 28 = .ok (.iload_n 1, 1) := by decide +kernel
theorem d_M_set_29 : decode b_M_set 29 = .ok (.iload_n 2, 1) := by decide +kernel
theorem d_M_set_30 : decode b_M_set 30 = .ok (.invokevirtual 87, 3) := by decide +kernel
theorem d_M_set_33 : decode b_M_set 33 = .ok (.return_, 1) := by decide +kernel
theorem d_M_not_0 : decode b_M_not 0 = .ok (.iload_n 0, 1) := by decide +kernel
theorem d_M_not_1 : decode b_M_not 1 = .ok (.ifCond .lt 8, 3) := by decide +kernel
theorem d_M_not_4 : decode b_M_not 4 = .ok (.iload_n 0, 1) := by decide +kernel
theorem d_M_not_5 : decode b_M_not 5 = .ok (.iload_n 1, 1) := by decide +kernel
theorem d_M_not_6 : decode b_M_not 6 = .ok (.if_icmp .lt 7, 3) := by decide +kernel
theorem d_M_not_9 : decode b_M_not 9 = .ok (.iconst 1, 1) := by decide +kernel
theorem d_M_not_10 : decode b_M_not 10 = .ok (.goto 4, 3) := by decide +kernel
theorem d_M_not_13 : decode b_M_not 13 = .ok (.iconst 0, 1) := by decide +kernel
theorem d_M_not_14 : decode b_M_not 14 = .ok (.ireturn, 1) := by decide +kernel
theorem d_M_hold_0 : decode b_M_hold 0 = .ok (.aload_n 0, 1) := by decide +kernel
theorem d_M_hold_1 : decode b_M_hold 1 = .ok (.getfield 20, 3) := by decide +kernel
theorem d_M_hold_4 : decode b_M_hold 4 = .ok (.iload_n 1, 1) := by decide +kernel
theorem d_M_hold_5 : decode b_M_hold 5 = .ok (.iload_n 2, 1) := by decide +kernel
theorem d_M_hold_6 : decode b_M_hold 6 = .ok (.aload_n 0, 1) := by decide +kernel
theorem d_M_hold_7 : decode b_M_hold 7 = .ok (.iload_n 1, 1) := by decide +kernel
theorem d_M_hold_8 : decode b_M_hold 8 = .ok (.invokevirtual 72, 3) := by decide +kernel
theorem d_M_hold_11 : decode b_M_hold 11 = .ok (.iand, 1) := by decide +kernel
theorem d_M_hold_12 : decode b_M_hold 12 = .ok (.iastore, 1) := by decide +kernel
theorem d_M_hold_13 : decode b_M_hold 13 = .ok (.return_, 1) := by decide +kernel
theorem d_M_ones_0 : decode b_M_ones 0 = .ok (.aload_n 0, 1) := by decide +kernel
theorem d_M_ones_1 : decode b_M_ones 1 = .ok (.getfield 16, 3) := by decide +kernel
theorem d_M_ones_4 : decode b_M_ones 4 = .ok (.iload_n 1, 1) := by decide +kernel
theorem d_M_ones_5 : decode b_M_ones 5 = .ok (.iaload, 1) := by decide +kernel
theorem d_M_ones_6 : decode b_M_ones 6 = .ok (.bipush 32, 2) := by decide +kernel
theorem d_M_ones_8 : decode b_M_ones 8 = .ok (.if_icmp .ne 7, 3) := by decide +kernel
theorem d_M_ones_11 : decode b_M_ones 11 = .ok (.iconst (-1), 1) := by decide +kernel
theorem d_M_ones_12 : decode b_M_ones 12 = .ok (.goto 13, 3) := by decide +kernel
theorem d_M_ones_15 : decode b_M_ones 15 = .ok (.iconst 1, 1) := by decide +kernel
theorem d_M_ones_16 : decode b_M_ones 16 = .ok (.aload_n 0, 1) := by decide +kernel
theorem d_M_ones_17 : decode b_M_ones 17 = .ok (.getfield 16, 3) := by decide +kernel
theorem d_M_ones_20 : decode b_M_ones 20 = .ok (.iload_n 1, 1) := by decide +kernel
theorem d_M_ones_21 : decode b_M_ones 21 = .ok (.iaload, 1) := by decide +kernel
theorem d_M_ones_22 : decode b_M_ones 22 = .ok (.ishl, 1) := by decide +kernel
theorem d_M_ones_23 : decode b_M_ones 23 = .ok (.iconst 1, 1) := by decide +kernel
theorem d_M_ones_24 : decode b_M_ones 24 = .ok (.isub, 1) := by decide +kernel
theorem d_M_ones_25 : decode b_M_ones 25 = .ok (.ireturn, 1) := by decide +kernel
theorem d_M_get_0 : decode b_M_get 0 = .ok (.aload_n 0, 1) := by decide +kernel
theorem d_M_get_1 : decode b_M_get 1 = .ok (.iconst 0, 1) := by decide +kernel
theorem d_M_get_2 : decode b_M_get 2 = .ok (.putfield 7, 3) := by decide +kernel
theorem d_M_get_5 : decode b_M_get 5 = .ok (.iload_n 1, 1) := by decide +kernel
theorem d_M_get_6 : decode b_M_get 6 = .ok (.aload_n 0, 1) := by decide +kernel
theorem d_M_get_7 : decode b_M_get 7 = .ok (.getfield 13, 3) := by decide +kernel
theorem d_M_get_10 : decode b_M_get 10 = .ok (.invokestatic 91, 3) := by decide +kernel
theorem d_M_get_13 : decode b_M_get 13 = .ok (.ifCond .eq 7, 3) := by decide +kernel
theorem d_M_get_16 : decode b_M_get 16 = .ok (.iconst 0, 1) := by decide +kernel
theorem d_M_get_17 : decode b_M_get 17 = .ok (.goto 9, 3) := by decide +kernel
theorem d_M_get_20 : decode b_M_get 20 = .ok (.aload_n 0, 1) := by decide +kernel
theorem d_M_get_21 : decode b_M_get 21 = .ok (.getfield 20, 3) := by decide +kernel
theorem d_M_get_24 : decode b_M_get 24 = .ok (.iload_n 1, 1) := by decide +kernel
theorem d_M_get_25 : decode b_M_get 25 = .ok (.iaload, 1) := by decide +kernel
theorem d_M_get_26 : decode b_M_get 26 = .ok (.ireturn, 1) := by decide +kernel
theorem d_M_action_0 : decode b_M_action 0 = .ok (.aload_n 0, 1) := by decide +kernel
theorem d_M_action_1 : decode b_M_action 1 = .ok (.aload_n 0, 1) := by decide +kernel
theorem d_M_action_2 : decode b_M_action 2 = .ok (.getfield 23, 3) := by decide +kernel
theorem d_M_action_5 : decode b_M_action 5 = .ok (.bipush 16, 2) := by decide +kernel
theorem d_M_action_7 : decode b_M_action 7 = .ok (.if_icmp .ne 7, 3) := by decide +kernel
theorem d_M_action_10 : decode b_M_action 10 = .ok (.iconst 1, 1) := by decide +kernel
theorem d_M_action_11 : decode b_M_action 11 = .ok (.goto 4, 3) := by decide +kernel
theorem d_M_action_14 : decode b_M_action 14 = .ok (.iconst 0, 1) := by decide +kernel
theorem d_M_action_15 : decode b_M_action 15 = .ok (.putfield 7, 3) := by decide +kernel
theorem d_M_action_18 : decode b_M_action 18 = .ok (.aload_n 0, 1) := by decide +kernel
theorem d_M_action_19 : decode b_M_action 19 = .ok (.getfield 7, 3) := by decide +kernel
theorem d_M_action_22 : decode b_M_action 22 = .ok (.ifCond .eq 5, 3) := by decide +kernel
theorem d_M_action_25 : decode b_M_action 25 = .ok (.iconst 0, 1) := by decide +kernel
theorem d_M_action_26 : decode b_M_action 26 = .ok (.ireturn, 1) := by decide +kernel
theorem d_M_action_27 : decode b_M_action 27 = .ok (.aload_n 0, 1) := by decide +kernel
theorem d_M_action_28 : decode b_M_action 28 = .ok (.getfield 26, 3) := by decide +kernel
theorem d_M_action_31 : decode b_M_action 31 = .ok (.aload_n 0, 1) := by decide +kernel
theorem d_M_action_32 : decode b_M_action 32 = .ok (.getfield 23, 3) := by decide +kernel
theorem d_M_action_35 : decode b_M_action 35 = .ok (.iconst 0, 1) := by decide +kernel
theorem d_M_action_36 : decode b_M_action 36 = .ok (.iastore, 1) := by decide +kernel
theorem d_M_action_37 : decode b_M_action 37 = .ok (.aload_n 0, 1) := by decide +kernel
theorem d_M_action_38 : decode b_M_action 38 = .ok (.dup, 1) := by decide +kernel
theorem d_M_action_39 : decode b_M_action 39 = .ok (.getfield 23, 3) := by decide +kernel
theorem d_M_action_42 : decode b_M_action 42 = .ok (.iconst 1, 1) := by decide +kernel
theorem d_M_action_43 : decode b_M_action 43 = .ok (.iadd, 1) := by decide +kernel
theorem d_M_action_44 : decode b_M_action 44 = .ok (.putfield 23, 3) := by decide +kernel
theorem d_M_action_47 : decode b_M_action 47 = .ok (.aload_n 0, 1) := by decide +kernel
theorem d_M_action_48 : decode b_M_action 48 = .ok (.getfield 23, 3) := by decide +kernel
theorem d_M_action_51 : decode b_M_action 51 = .ok (.iconst 1, 1) := by decide +kernel
theorem d_M_action_52 : decode b_M_action 52 = .ok (.isub, 1) := by decide +kernel
theorem d_M_action_53 : decode b_M_action 53 = .ok (.ireturn, 1) := by decide +kernel
theorem d_M_doing_0 : decode b_M_doing 0 = .ok (.aload_n 0, 1) := by decide +kernel
theorem d_M_doing_1 : decode b_M_doing 1 = .ok (.iload_n 2, 1) := by decide +kernel
theorem d_M_doing_2 : decode b_M_doing 2 = .ok (.bipush 9, 2) := by decide +kernel
theorem d_M_doing_4 : decode b_M_doing 4 = .ok (.invokestatic 91, 3) := by decide +kernel
theorem d_M_doing_7 : decode b_M_doing 7 = .ok (.ifCond .eq 7, 3) := by decide +kernel
theorem d_M_doing_10 : decode b_M_doing 10 = .ok (.iconst 2, 1) := by decide +kernel
theorem d_M_doing_11 : decode b_M_doing 11 = .ok (.goto 46, 3) := by decide +kernel
theorem d_M_doing_14 : decode b_M_doing 14 = .ok (.iload_n 1, 1) := by decide +kernel
theorem d_M_doing_15 : decode b_M_doing 15 = .ok (.aload_n 0, 1) := by decide +kernel
theorem d_M_doing_16 : decode b_M_doing 16 = .ok (.getfield 23, 3) := by decide +kernel
theorem d_M_doing_19 : decode b_M_doing 19 = .ok (.invokestatic 91, 3) := by decide +kernel
theorem d_M_doing_22 : decode b_M_doing 22 = .ok (.ifCond .ne 16, 3) := by decide +kernel
theorem d_M_doing_25 : decode b_M_doing 25 = .ok (.aload_n 0, 1) := by decide +kernel
theorem d_M_doing_26 : decode b_M_doing 26 = .ok (.iload_n 2, 1) := by decide +kernel
theorem d_M_doing_27 : decode b_M_doing 27 = .ok (.iload_n 3, 1) := by decide +kernel
theorem d_M_doing_28 : decode b_M_doing 28 = .ok (.iload 4, 2) := by decide +kernel
theorem d_M_doing_30 : decode b_M_doing 30 = .ok (.iload 5, 2) := by decide +kernel
theorem d_M_doing_32 : decode b_M_doing 32 = .ok (.invokevirtual 95, 3) := by decide +kernel
theorem d_M_doing_35 : decode b_M_doing 35 = .ok (.ifCond .eq 7, 3) := by decide +kernel
theorem d_M_doing_38 : decode b_M_doing 38 = .ok (.iconst 1, 1) := by decide +kernel
theorem d_M_doing_39 : decode b_M_doing 39 = .ok (.goto 18, 3) := by decide +kernel
theorem d_M_doing_42 : decode b_M_doing 42 = .ok (.aload_n 0, 1) := by decide +kernel
theorem d_M_doing_43 : decode b_M_doing 43 = .ok (.getfield 26, 3) := by decide +kernel
theorem d_M_doing_46 : decode b_M_doing 46 = .ok (.iload_n 1, 1) := by decide +kernel
theorem d_M_doing_47 : decode b_M_doing 47 = .ok (.iaload, 1) := by decide +kernel
theorem d_M_doing_48 : decode b_M_doing 48 = .ok (.iconst 4, 1) := by decide +kernel
theorem d_M_doing_49 : decode b_M_doing 49 = .ok (.if_icmp .ne 7, 3) := by decide +kernel
theorem d_M_doing_52 : decode b_M_doing 52 = .ok (.iconst 3, 1) := by decide +kernel
theorem d_M_doing_53 : decode b_M_doing 53 = .ok (.goto 4, 3) := by decide +kernel
theorem d_M_doing_56 : decode b_M_doing 56 = .ok (.iconst 0, 1) := by decide +kernel
theorem d_M_doing_57 : decode b_M_doing 57 = .ok (.putfield 7, 3) := by decide +kernel
theorem d_M_doing_60 : decode b_M_doing 60 = .ok (.aload_n 0, 1) := by decide +kernel
theorem d_M_doing_61 : decode b_M_doing 61 = .ok (.getfield 7, 3) := by decide +kernel
theorem d_M_doing_64 : decode b_M_doing 64 = .ok (.ifCond .eq 4, 3) := by decide +kernel
theorem d_M_doing_67 : decode b_M_doing 67 = .ok (.return_, 1) := by decide +kernel
theorem d_M_doing_68 : decode b_M_doing 68 = .ok (.bipush 16, 2) := by decide +kernel
theorem d_M_doing_70 : decode b_M_doing 70 = .ok (.iload_n 1, 1) := by decide +kernel
theorem d_M_doing_71 : decode b_M_doing 71 = .ok (.imul, 1) := by decide +kernel
theorem d_M_doing_72 : decode b_M_doing 72 = .ok (.iconst 4, 1) := by decide +kernel
theorem d_M_doing_73 : decode b_M_doing 73 = .ok (.aload_n 0, 1) := by decide +kernel
theorem d_M_doing_74 : decode b_M_doing 74 = .ok (.getfield 26, 3) := by decide +kernel
theorem d_M_doing_77 : decode b_M_doing 77 = .ok (.iload_n 1, 1) := by decide +kernel
theorem d_M_doing_78 : decode b_M_doing 78 = .ok (.iaload, 1) := by decide +kernel
theorem d_M_doing_79 : decode b_M_doing 79 = .ok (.imul, 1) := by decide +kernel
theorem d_M_doing_80 : decode b_M_doing 80 = .ok (.iadd, 1) := by decide +kernel
theorem d_M_doing_81 : decode b_M_doing 81 = .ok (.istore 6, 2) := by decide +kernel
theorem d_M_doing_83 : decode b_M_doing 83 = .ok (.aload_n 0, 1) := by decide +kernel
theorem d_M_doing_84 : decode b_M_doing 84 = .ok (.getfield 29, 3) := by decide +kernel
theorem d_M_doing_87 : decode b_M_doing 87 = .ok (.iload 6, 2) := by decide +kernel
theorem d_M_doing_89 : decode b_M_doing 89 = .ok (.iload_n 2, 1) := by decide +kernel
theorem d_M_doing_90 : decode b_M_doing 90 = .ok (.iastore, 1) := by decide +kernel
theorem d_M_doing_91 : decode b_M_doing 91 = .ok (.aload_n 0, 1) := by decide +kernel
theorem d_M_doing_92 : decode b_M_doing 92 = .ok (.getfield 29, 3) := by decide +kernel
theorem d_M_doing_95 : decode b_M_doing 95 = .ok (.iload 6, 2) := by decide +kernel
theorem d_M_doing_97 : decode b_M_doing 97 = .ok (.iconst 1, 1) := by decide +kernel
theorem d_M_doing_98 : decode b_M_doing 98 = .ok (.iadd, 1) := by decide +kernel
theorem d_M_doing_99 : decode b_M_doing 99 = .ok (.iload_n 3, 1) := by decide +kernel
theorem d_M_doing_100 : decode b_M_doing 100 = .ok (.iastore, 1) := by decide +kernel
theorem d_M_doing_101 : decode b_M_doing 101 = .ok (.aload_n 0, 1) := by decide +kernel
theorem d_M_doing_102 : decode b_M_doing 102 = .ok (.getfield 29, 3) := by decide +kernel
theorem d_M_doing_105 : decode b_M_doing 105 = .ok (.iload 6, 2) := by decide +kernel
theorem d_M_doing_107 : decode b_M_doing 107 = .ok (.iconst 2, 1) := by decide +kernel
theorem d_M_doing_108 : decode b_M_doing 108 = .ok (.iadd, 1) := by decide +kernel
theorem d_M_doing_109 : decode b_M_doing 109 = .ok (.iload 4, 2) := by decide +kernel
theorem d_M_doing_111 : decode b_M_doing 111 = .ok (.iastore, 1) := by decide +kernel
theorem d_M_doing_112 : decode b_M_doing 112 = .ok (.aload_n 0, 1) := by decide +kernel
theorem d_M_doing_113 : decode b_M_doing 113 = .ok (.getfield 29, 3) := by decide +kernel
theorem d_M_doing_116 : decode b_M_doing 116 = .ok (.iload 6, 2) := by decide +kernel
theorem d_M_doing_118 : decode b_M_doing 118 = .ok (.iconst 3, 1) := by decide +kernel
theorem d_M_doing_119 : decode b_M_doing 119 = .ok (.iadd, 1) := by decide +kernel
theorem d_M_doing_120 : decode b_M_doing 120 = .ok (.iload 5, 2) := by decide +kernel
theorem d_M_doing_122 : decode b_M_doing 122 = .ok (.iastore, 1) := by decide +kernel
theorem d_M_doing_123 : decode b_M_doing 123 = .ok (.aload_n 0, 1) := by decide +kernel
theorem d_M_doing_124 : decode b_M_doing 124 = .ok (.getfield 26, 3) := by decide +kernel
theorem d_M_doing_127 : decode b_M_doing 127 = .ok (.iload_n 1, 1) := by decide +kernel
theorem d_M_doing_128 : decode b_M_doing 128 = .ok (.aload_n 0, 1) := by decide +kernel
theorem d_M_doing_129 : decode b_M_doing 129 = .ok (.getfield 26, 3) := by decide +kernel
theorem d_M_doing_132 : decode b_M_doing 132 = .ok (.iload_n 1, 1) := by decide +kernel
theorem d_M_doing_133 : decode b_M_doing 133 = .ok (.iaload, 1) := by decide +kernel
theorem d_M_doing_134 : decode b_M_doing 134 = .ok (.iconst 1, 1) := by decide +kernel
theorem d_M_doing_135 : decode b_M_doing 135 = .ok (.iadd, 1) := by decide +kernel
theorem d_M_doing_136 : decode b_M_doing 136 = .ok (.iastore, 1) := by decide +kernel
theorem d_M_doing_137 : decode b_M_doing 137 = .ok (.return_, 1) := by decide +kernel
theorem d_M_unknown_0 : decode b_M_unknown 0 = .ok (.iload_n 1, 1) := by decide +kernel
theorem d_M_unknown_1 : decode b_M_unknown 1 = .ok (.iconst 4, 1) := by decide +kernel
theorem d_M_unknown_2 : decode b_M_unknown 2 = .ok (.if_icmp .lt 9, 3) := by decide +kernel
theorem d_M_unknown_5 : decode b_M_unknown 5 = .ok (.iload_n 1, 1) := by decide +kernel
theorem d_M_unknown_6 : decode b_M_unknown 6 = .ok (.bipush 8, 2) := by decide +kernel
theorem d_M_unknown_8 : decode b_M_unknown 8 = .ok (.if_icmp .ne 7, 3) := by decide +kernel
theorem d_M_unknown_11 : decode b_M_unknown 11 = .ok (.iconst 1, 1) := by decide +kernel
theorem d_M_unknown_12 : decode b_M_unknown 12 = .ok (.goto 4, 3) := by decide +kernel
theorem d_M_unknown_15 : decode b_M_unknown 15 = .ok (.iconst 0, 1) := by decide +kernel
theorem d_M_unknown_16 : decode b_M_unknown 16 = .ok (.istore 5, 2) := by decide +kernel
theorem d_M_unknown_18 : decode b_M_unknown 18 = .ok (.iload_n 1, 1) := by decide +kernel
theorem d_M_unknown_19 : decode b_M_unknown 19 = .ok (.iconst 1, 1) := by decide +kernel
theorem d_M_unknown_20 : decode b_M_unknown 20 = .ok (.if_icmp .eq 14, 3) := by decide +kernel
theorem d_M_unknown_23 : decode b_M_unknown 23 = .ok (.iload_n 1, 1) := by decide +kernel
theorem d_M_unknown_24 : decode b_M_unknown 24 = .ok (.iconst 2, 1) := by decide +kernel
theorem d_M_unknown_25 : decode b_M_unknown 25 = .ok (.if_icmp .eq 9, 3) := by decide +kernel
theorem d_M_unknown_28 : decode b_M_unknown 28 = .ok (.iload_n 1, 1) := by decide +kernel
theorem d_M_unknown_29 : decode b_M_unknown 29 = .ok (.bipush 6, 2) := by decide +kernel
theorem d_M_unknown_31 : decode b_M_unknown 31 = .ok (.if_icmp .le 7, 3) := by decide +kernel
theorem d_M_unknown_34 : decode b_M_unknown 34 = .ok (.iconst 1, 1) := by decide +kernel
theorem d_M_unknown_35 : decode b_M_unknown 35 = .ok (.goto 4, 3) := by decide +kernel
theorem d_M_unknown_38 : decode b_M_unknown 38 = .ok (.iconst 0, 1) := by decide +kernel
theorem d_M_unknown_39 : decode b_M_unknown 39 = .ok (.istore 6, 2) := by decide +kernel
theorem d_M_unknown_41 : decode b_M_unknown 41 = .ok (.iload_n 1, 1) := by decide +kernel
theorem d_M_unknown_42 : decode b_M_unknown 42 = .ok (.iconst 3, 1) := by decide +kernel
theorem d_M_unknown_43 : decode b_M_unknown 43 = .ok (.if_icmp .eq 8, 3) := by decide +kernel
theorem d_M_unknown_46 : decode b_M_unknown 46 = .ok (.iload_n 1, 1) := by decide +kernel
theorem d_M_unknown_47 : decode b_M_unknown 47 = .ok (.iconst 5, 1) := by decide +kernel
theorem d_M_unknown_48 : decode b_M_unknown 48 = .ok (.if_icmp .ne 7, 3) := by decide +kernel
theorem d_M_unknown_51 : decode b_M_unknown 51 = .ok (.iconst 1, 1) := by decide +kernel
theorem d_M_unknown_52 : decode b_M_unknown 52 = .ok (.goto 4, 3) := by decide +kernel
theorem d_M_unknown_55 : decode b_M_unknown 55 = .ok (.iconst 0, 1) := by decide +kernel
theorem d_M_unknown_56 : decode b_M_unknown 56 = .ok (.istore 7, 2) := by decide +kernel
theorem d_M_unknown_58 : decode b_M_unknown 58 = .ok (.iload 5, 2) := by decide +kernel
theorem d_M_unknown_60 : decode b_M_unknown 60 = .ok (.ifCond .eq 14, 3) := by decide +kernel
theorem d_M_unknown_63 : decode b_M_unknown 63 = .ok (.iload_n 2, 1) := by decide +kernel
theorem d_M_unknown_64 : decode b_M_unknown 64 = .ok (.aload_n 0, 1) := by decide +kernel
theorem d_M_unknown_65 : decode b_M_unknown 65 = .ok (.getfield 13, 3) := by decide +kernel
theorem d_M_unknown_68 : decode b_M_unknown 68 = .ok (.invokestatic 91, 3) := by decide +kernel
theorem d_M_unknown_71 : decode b_M_unknown 71 = .ok (.ifCond .ne 32, 3) := by decide +kernel
theorem d_M_unknown_74 : decode b_M_unknown 74 = .ok (.iload 6, 2) := by decide +kernel
theorem d_M_unknown_76 : decode b_M_unknown 76 = .ok (.ifCond .eq 14, 3) := by decide +kernel
theorem d_M_unknown_79 : decode b_M_unknown 79 = .ok (.iload_n 3, 1) := by decide +kernel
theorem d_M_unknown_80 : decode b_M_unknown 80 = .ok (.aload_n 0, 1) := by decide +kernel
theorem d_M_unknown_81 : decode b_M_unknown 81 = .ok (.getfield 13, 3) := by decide +kernel
theorem d_M_unknown_84 : decode b_M_unknown 84 = .ok (.invokestatic 91, 3) := by decide +kernel
theorem d_M_unknown_87 : decode b_M_unknown 87 = .ok (.ifCond .ne 16, 3) := by decide +kernel
theorem d_M_unknown_90 : decode b_M_unknown 90 = .ok (.iload 7, 2) := by decide +kernel
theorem d_M_unknown_92 : decode b_M_unknown 92 = .ok (.ifCond .eq 13, 3) := by decide +kernel
theorem d_M_unknown_95 : decode b_M_unknown 95 = .ok (.iload_n 3, 1) := by decide +kernel
theorem d_M_unknown_96 : decode b_M_unknown 96 = .ok (.iconst 2, 1) := by decide +kernel
theorem d_M_unknown_97 : decode b_M_unknown 97 = .ok (.invokestatic 91, 3) := by decide +kernel
theorem d_M_unknown_100 : decode b_M_unknown 100 = .ok (.ifCond .eq 5, 3) := by decide +kernel
theorem d_M_unknown_103 : decode b_M_unknown 103 = .ok (.iconst 1, 1) := by decide +kernel
theorem d_M_unknown_104 : decode b_M_unknown 104 = .ok (.ireturn, 1) := by decide +kernel
theorem d_M_unknown_105 : decode b_M_unknown 105 = .ok (.iload_n 1, 1) := by decide +kernel
theorem d_M_unknown_106 : decode b_M_unknown 106 = .ok (.bipush 7, 2) := by decide +kernel
theorem d_M_unknown_108 : decode b_M_unknown 108 = .ok (.if_icmp .ne 11, 3) := by decide +kernel
theorem d_M_unknown_111 : decode b_M_unknown 111 = .ok (.iload_n 2, 1) := by decide +kernel
theorem d_M_unknown_112 : decode b_M_unknown 112 = .ok (.iconst 4, 1) := by decide +kernel
theorem d_M_unknown_113 : decode b_M_unknown 113 = .ok (.invokestatic 91, 3) := by decide +kernel
theorem d_M_unknown_116 : decode b_M_unknown 116 = .ok (.ifCond .ne 18, 3) := by decide +kernel
theorem d_M_unknown_119 : decode b_M_unknown 119 = .ok (.iload_n 1, 1) := by decide +kernel
theorem d_M_unknown_120 : decode b_M_unknown 120 = .ok (.bipush 8, 2) := by decide +kernel
theorem d_M_unknown_122 : decode b_M_unknown 122 = .ok (.if_icmp .ne 16, 3) := by decide +kernel
theorem d_M_unknown_125 : decode b_M_unknown 125 = .ok (.iload 4, 2) := by decide +kernel
theorem d_M_unknown_127 : decode b_M_unknown 127 = .ok (.iconst 4, 1) := by decide +kernel
theorem d_M_unknown_128 : decode b_M_unknown 128 = .ok (.invokestatic 91, 3) := by decide +kernel
theorem d_M_unknown_131 : decode b_M_unknown 131 = .ok (.ifCond .eq 7, 3) := by decide +kernel
theorem d_M_unknown_134 : decode b_M_unknown 134 = .ok (.iconst 1, 1) := by decide +kernel
theorem d_M_unknown_135 : decode b_M_unknown 135 = .ok (.goto 4, 3) := by decide +kernel
theorem d_M_unknown_138 : decode b_M_unknown 138 = .ok (.iconst 0, 1) := by decide +kernel
theorem d_M_unknown_139 : decode b_M_unknown 139 = .ok (.ireturn, 1) := by decide +kernel
theorem d_M_table_0 : decode b_M_table 0 = .ok (.iload_n 1, 1) := by decide +kernel
theorem d_M_table_1 : decode b_M_table 1 = .ok (.aload_n 0, 1) := by decide +kernel
theorem d_M_table_2 : decode b_M_table 2 = .ok (.getfield 13, 3) := by decide +kernel
theorem d_M_table_5 : decode b_M_table 5 = .ok (.invokestatic 91, 3) := by decide +kernel
theorem d_M_table_8 : decode b_M_table 8 = .ok (.ifCond .ne 46, 3) := by decide +kernel
theorem d_M_table_11 : decode b_M_table 11 = .ok (.iload_n 2, 1) := by decide +kernel
theorem d_M_table_12 : decode b_M_table 12 = .ok (.iconst (-1), 1) := by decide +kernel
theorem d_M_table_13 : decode b_M_table 13 = .ok (.if_icmp .eq 14, 3) := by decide +kernel
theorem d_M_table_16 : decode b_M_table 16 = .ok (.iload_n 2, 1) := by decide +kernel
theorem d_M_table_17 : decode b_M_table 17 = .ok (.aload_n 0, 1) := by decide +kernel
theorem d_M_table_18 : decode b_M_table 18 = .ok (.getfield 13, 3) := by decide +kernel
theorem d_M_table_21 : decode b_M_table 21 = .ok (.invokestatic 91, 3) := by decide +kernel
theorem d_M_table_24 : decode b_M_table 24 = .ok (.ifCond .ne 30, 3) := by decide +kernel
theorem d_M_table_27 : decode b_M_table 27 = .ok (.iload_n 1, 1) := by decide +kernel
theorem d_M_table_28 : decode b_M_table 28 = .ok (.iload_n 2, 1) := by decide +kernel
theorem d_M_table_29 : decode b_M_table 29 = .ok (.if_icmp .eq 25, 3) := by decide +kernel
theorem d_M_table_32 : decode b_M_table 32 = .ok (.iload 4, 2) := by decide +kernel
theorem d_M_table_34 : decode b_M_table 34 = .ok (.aload_n 0, 1) := by decide +kernel
theorem d_M_table_35 : decode b_M_table 35 = .ok (.getfield 23, 3) := by decide +kernel
theorem d_M_table_38 : decode b_M_table 38 = .ok (.iushr, 1) := by decide +kernel
theorem d_M_table_39 : decode b_M_table 39 = .ok (.ifCond .ne 15, 3) := by decide +kernel
theorem d_M_table_42 : decode b_M_table 42 = .ok (.iload 5, 2) := by decide +kernel
theorem d_M_table_44 : decode b_M_table 44 = .ok (.aload_n 0, 1) := by decide +kernel
theorem d_M_table_45 : decode b_M_table 45 = .ok (.getfield 23, 3) := by decide +kernel
theorem d_M_table_48 : decode b_M_table 48 = .ok (.invokestatic 91, 3) := by decide +kernel
theorem d_M_table_51 : decode b_M_table 51 = .ok (.ifCond .eq 7, 3) := by decide +kernel
theorem d_M_table_54 : decode b_M_table 54 = .ok (.iconst 1, 1) := by decide +kernel
theorem d_M_table_55 : decode b_M_table 55 = .ok (.goto 4, 3) := by decide +kernel
theorem d_M_table_58 : decode b_M_table 58 = .ok (.iconst 0, 1) := by decide +kernel
theorem d_M_table_59 : decode b_M_table 59 = .ok (.istore 6, 2) := by decide +kernel
theorem d_M_table_61 : decode b_M_table 61 = .ok (.iload 6, 2) := by decide +kernel
theorem d_M_table_63 : decode b_M_table 63 = .ok (.ifCond .ne 20, 3) := by decide +kernel
theorem d_M_table_66 : decode b_M_table 66 = .ok (.iload 4, 2) := by decide +kernel
theorem d_M_table_68 : decode b_M_table 68 = .ok (.iload 5, 2) := by decide +kernel
theorem d_M_table_70 : decode b_M_table 70 = .ok (.ishr, 1) := by decide +kernel
theorem d_M_table_71 : decode b_M_table 71 = .ok (.iconst 1, 1) := by decide +kernel
theorem d_M_table_72 : decode b_M_table 72 = .ok (.iand, 1) := by decide +kernel
theorem d_M_table_73 : decode b_M_table 73 = .ok (.ifCond .ne 7, 3) := by decide +kernel
theorem d_M_table_76 : decode b_M_table 76 = .ok (.iconst 1, 1) := by decide +kernel
theorem d_M_table_77 : decode b_M_table 77 = .ok (.goto 4, 3) := by decide +kernel
theorem d_M_table_80 : decode b_M_table 80 = .ok (.iconst 0, 1) := by decide +kernel
theorem d_M_table_81 : decode b_M_table 81 = .ok (.istore 6, 2) := by decide +kernel
theorem d_M_table_83 : decode b_M_table 83 = .ok (.iload_n 3, 1) := by decide +kernel
theorem d_M_table_84 : decode b_M_table 84 = .ok (.ifCond .lt 31, 3) := by decide +kernel
theorem d_M_table_87 : decode b_M_table 87 = .ok (.iload_n 3, 1) := by decide +kernel
theorem d_M_table_88 : decode b_M_table 88 = .ok (.bipush 10, 2) := by decide +kernel
theorem d_M_table_90 : decode b_M_table 90 = .ok (.if_icmp .gt 25, 3) := by decide +kernel
theorem d_M_table_93 : decode b_M_table 93 = .ok (.iload_n 3, 1) := by decide +kernel
theorem d_M_table_94 : decode b_M_table 94 = .ok (.iconst 4, 1) := by decide +kernel
theorem d_M_table_95 : decode b_M_table 95 = .ok (.irem, 1) := by decide +kernel
theorem d_M_table_96 : decode b_M_table 96 = .ok (.iconst 3, 1) := by decide +kernel
theorem d_M_table_97 : decode b_M_table 97 = .ok (.if_icmp .eq 18, 3) := by decide +kernel
theorem d_M_table_100 : decode b_M_table 100 = .ok (.iload_n 2, 1) := by decide +kernel
theorem d_M_table_101 : decode b_M_table 101 = .ok (.iconst (-1), 1) := by decide +kernel
theorem d_M_table_102 : decode b_M_table 102 = .ok (.if_icmp .ne 8, 3) := by decide +kernel
theorem d_M_table_105 : decode b_M_table 105 = .ok (.iload_n 3, 1) := by decide +kernel
theorem d_M_table_106 : decode b_M_table 106 = .ok (.iconst 2, 1) := by decide +kernel
theorem d_M_table_107 : decode b_M_table 107 = .ok (.if_icmp .gt 8, 3) := by decide +kernel
theorem d_M_table_110 : decode b_M_table 110 = .ok (.iload_n 3, 1) := by decide +kernel
theorem d_M_table_111 : decode b_M_table 111 = .ok (.iconst 5, 1) := by decide +kernel
theorem d_M_table_112 : decode b_M_table 112 = .ok (.if_icmp .ne 7, 3) := by decide +kernel
theorem d_M_table_115 : decode b_M_table 115 = .ok (.iconst 1, 1) := by decide +kernel
theorem d_M_table_116 : decode b_M_table 116 = .ok (.goto 4, 3) := by decide +kernel
theorem d_M_table_119 : decode b_M_table 119 = .ok (.iconst 0, 1) := by decide +kernel
theorem d_M_table_120 : decode b_M_table 120 = .ok (.istore 7, 2) := by decide +kernel
theorem d_M_table_122 : decode b_M_table 122 = .ok (.aload_n 0, 1) := by decide +kernel
theorem d_M_table_123 : decode b_M_table 123 = .ok (.iload 6, 2) := by decide +kernel
theorem d_M_table_125 : decode b_M_table 125 = .ok (.ifCond .eq 7, 3) := by decide +kernel
theorem d_M_table_128 : decode b_M_table 128 = .ok (.iconst 1, 1) := by decide +kernel
theorem d_M_table_129 : decode b_M_table 129 = .ok (.goto 26, 3) := by decide +kernel
theorem d_M_table_132 : decode b_M_table 132 = .ok (.iload 7, 2) := by decide +kernel
theorem d_M_table_134 : decode b_M_table 134 = .ok (.ifCond .eq 7, 3) := by decide +kernel
theorem d_M_table_137 : decode b_M_table 137 = .ok (.iconst 2, 1) := by decide +kernel
theorem d_M_table_138 : decode b_M_table 138 = .ok (.goto 17, 3) := by decide +kernel
theorem d_M_table_141 : decode b_M_table 141 = .ok (.aload_n 0, 1) := by decide +kernel
theorem d_M_table_142 : decode b_M_table 142 = .ok (.getfield 35, 3) := by decide +kernel
theorem d_M_table_145 : decode b_M_table 145 = .ok (.bipush 8, 2) := by decide +kernel
theorem d_M_table_147 : decode b_M_table 147 = .ok (.if_icmp .ne 7, 3) := by decide +kernel
theorem d_M_table_150 : decode b_M_table 150 = .ok (.iconst 3, 1) := by decide +kernel
theorem d_M_table_151 : decode b_M_table 151 = .ok (.goto 4, 3) := by decide +kernel
theorem d_M_table_154 : decode b_M_table 154 = .ok (.iconst 0, 1) := by decide +kernel
theorem d_M_table_155 : decode b_M_table 155 = .ok (.putfield 7, 3) := by decide +kernel
theorem d_M_table_158 : decode b_M_table 158 = .ok (.aload_n 0, 1) := by decide +kernel
theorem d_M_table_159 : decode b_M_table 159 = .ok (.getfield 7, 3) := by decide +kernel
theorem d_M_table_162 : decode b_M_table 162 = .ok (.ifCond .eq 5, 3) := by decide +kernel
theorem d_M_table_165 : decode b_M_table 165 = .ok (.iconst 0, 1) := by decide +kernel
theorem d_M_table_166 : decode b_M_table 166 = .ok (.ireturn, 1) := by decide +kernel
theorem d_M_table_167 : decode b_M_table 167 = .ok (.aload_n 0, 1) := by decide +kernel
theorem d_M_table_168 : decode b_M_table 168 = .ok (.getfield 38, 3) := by decide +kernel
theorem d_M_table_171 : decode b_M_table 171 = .ok (.aload_n 0, 1) := by decide +kernel
theorem d_M_table_172 : decode b_M_table 172 = .ok (.getfield 35, 3) := by decide +kernel
theorem d_M_table_175 : decode b_M_table 175 = .ok (.iload_n 1, 1) := by decide +kernel
theorem d_M_table_176 : decode b_M_table 176 = .ok (.iastore, 1) := by decide +kernel
theorem d_M_table_177 : decode b_M_table 177 = .ok (.aload_n 0, 1) := by decide +kernel
theorem d_M_table_178 : decode b_M_table 178 = .ok (.getfield 41, 3) := by decide +kernel
theorem d_M_table_181 : decode b_M_table 181 = .ok (.aload_n 0, 1) := by decide +kernel
theorem d_M_table_182 : decode b_M_table 182 = .ok (.getfield 35, 3) := by decide +kernel
theorem d_M_table_185 : decode b_M_table 185 = .ok (.iload_n 2, 1) := by decide +kernel
theorem d_M_table_186 : decode b_M_table 186 = .ok (.iastore, 1) := by decide +kernel
theorem d_M_table_187 : decode b_M_table 187 = .ok (.aload_n 0, 1) := by decide +kernel
theorem d_M_table_188 : decode b_M_table 188 = .ok (.getfield 44, 3) := by decide +kernel
theorem d_M_table_191 : decode b_M_table 191 = .ok (.aload_n 0, 1) := by decide +kernel
theorem d_M_table_192 : decode b_M_table 192 = .ok (.getfield 35, 3) := by decide +kernel
theorem d_M_table_195 : decode b_M_table 195 = .ok (.iload_n 3, 1) := by decide +kernel
theorem d_M_table_196 : decode b_M_table 196 = .ok (.iastore, 1) := by decide +kernel
theorem d_M_table_197 : decode b_M_table 197 = .ok (.aload_n 0, 1) := by decide +kernel
theorem d_M_table_198 : decode b_M_table 198 = .ok (.getfield 47, 3) := by decide +kernel
theorem d_M_table_201 : decode b_M_table 201 = .ok (.aload_n 0, 1) := by decide +kernel
theorem d_M_table_202 : decode b_M_table 202 = .ok (.getfield 35, 3) := by decide +kernel
theorem d_M_table_205 : decode b_M_table 205 = .ok (.iload 4, 2) := by decide +kernel
theorem d_M_table_207 : decode b_M_table 207 = .ok (.iastore, 1) := by decide +kernel
theorem d_M_table_208 : decode b_M_table 208 = .ok (.aload_n 0, 1) := by decide +kernel
theorem d_M_table_209 : decode b_M_table 209 = .ok (.getfield 50, 3) := by decide +kernel
theorem d_M_table_212 : decode b_M_table 212 = .ok (.aload_n 0, 1) := by decide +kernel
theorem d_M_table_213 : decode b_M_table 213 = .ok (.getfield 35, 3) := by decide +kernel
theorem d_M_table_216 : decode b_M_table 216 = .ok (.iload 5, 2) := by decide +kernel
theorem d_M_table_218 : decode b_M_table 218 = .ok (.iastore, 1) := by decide +kernel
theorem d_M_table_219 : decode b_M_table 219 = .ok (.aload_n 0, 1) := by decide +kernel
theorem d_M_table_220 : decode b_M_table 220 = .ok (.getfield 53, 3) := by decide +kernel
theorem d_M_table_223 : decode b_M_table 223 = .ok (.aload_n 0, 1) := by decide +kernel
theorem d_M_table_224 : decode b_M_table 224 = .ok (.getfield 35, 3) := by decide +kernel
theorem d_M_table_227 : decode b_M_table 227 = .ok (.iconst 0, 1) := by decide +kernel
theorem d_M_table_228 : decode b_M_table 228 = .ok (.iastore, 1) := by decide +kernel
theorem d_M_table_229 : decode b_M_table 229 = .ok (.aload_n 0, 1) := by decide +kernel
theorem d_M_table_230 : decode b_M_table 230 = .ok (.dup, 1) := by decide +kernel
theorem d_M_table_231 : decode b_M_table 231 = .ok (.getfield 35, 3) := by decide +kernel
theorem d_M_table_234 : decode b_M_table 234 = .ok (.iconst 1, 1) := by decide +kernel
theorem d_M_table_235 : decode b_M_table 235 = .ok (.iadd, 1) := by decide +kernel
theorem d_M_table_236 : decode b_M_table 236 = .ok (.putfield 35, 3) := by decide +kernel
theorem d_M_table_239 : decode b_M_table 239 = .ok (.aload_n 0, 1) := by decide +kernel
theorem d_M_table_240 : decode b_M_table 240 = .ok (.getfield 35, 3) := by decide +kernel
theorem d_M_table_243 : decode b_M_table 243 = .ok (.iconst 1, 1) := by decide +kernel
theorem d_M_table_244 : decode b_M_table 244 = .ok (.isub, 1) := by decide +kernel
theorem d_M_table_245 : decode b_M_table 245 = .ok (.ireturn, 1) := by decide +kernel
theorem d_M_key_0 : decode b_M_key 0 = .ok (.aload_n 0, 1) := by decide +kernel
theorem d_M_key_1 : decode b_M_key 1 = .ok (.iconst 0, 1) := by decide +kernel
theorem d_M_key_2 : decode b_M_key 2 = .ok (.putfield 7, 3) := by decide +kernel
theorem d_M_key_5 : decode b_M_key 5 = .ok (.aload_n 0, 1) := by decide +kernel
theorem d_M_key_6 : decode b_M_key 6 = .ok (.getfield 59, 3) := by decide +kernel
theorem d_M_key_9 : decode b_M_key 9 = .ok (.iconst 0, 1) := by decide +kernel
theorem d_M_key_10 : decode b_M_key 10 = .ok (.iload_n 1, 1) := by decide +kernel
theorem d_M_key_11 : decode b_M_key 11 = .ok (.iastore, 1) := by decide +kernel
theorem d_M_key_12 : decode b_M_key 12 = .ok (.aload_n 0, 1) := by decide +kernel
theorem d_M_key_13 : decode b_M_key 13 = .ok (.getfield 59, 3) := by decide +kernel
theorem d_M_key_16 : decode b_M_key 16 = .ok (.iconst 1, 1) := by decide +kernel
theorem d_M_key_17 : decode b_M_key 17 = .ok (.iload_n 2, 1) := by decide +kernel
theorem d_M_key_18 : decode b_M_key 18 = .ok (.iastore, 1) := by decide +kernel
theorem d_M_key_19 : decode b_M_key 19 = .ok (.aload_n 0, 1) := by decide +kernel
theorem d_M_key_20 : decode b_M_key 20 = .ok (.getfield 59, 3) := by decide +kernel
theorem d_M_key_23 : decode b_M_key 23 = .ok (.iconst 2, 1) := by decide +kernel
theorem d_M_key_24 : decode b_M_key 24 = .ok (.iload_n 3, 1) := by decide +kernel
theorem d_M_key_25 : decode b_M_key 25 = .ok (.iastore, 1) := by decide +kernel
theorem d_M_key_26 : decode b_M_key 26 = .ok (.aload_n 0, 1) := by decide +kernel
theorem d_M_key_27 : decode b_M_key 27 = .ok (.getfield 59, 3) := by decide +kernel
theorem d_M_key_30 : decode b_M_key 30 = .ok (.iconst 3, 1) := by decide +kernel
theorem d_M_key_31 : decode b_M_key 31 = .ok (.iload 4, 2) := by decide +kernel
theorem d_M_key_33 : decode b_M_key 33 = .ok (.iastore, 1) := by decide +kernel
theorem d_M_key_34 : decode b_M_key 34 = .ok (.return_, 1) := by decide +kernel
theorem d_M_insert_0 : decode b_M_insert 0 = .ok (.aload_n 0, 1) := by decide +kernel
theorem d_M_insert_1 : decode b_M_insert 1 = .ok (.iload_n 1, 1) := by decide +kernel
theorem d_M_insert_2 : decode b_M_insert 2 = .ok (.aload_n 0, 1) := by decide +kernel
theorem d_M_insert_3 : decode b_M_insert 3 = .ok (.getfield 35, 3) := by decide +kernel
theorem d_M_insert_6 : decode b_M_insert 6 = .ok (.invokestatic 91, 3) := by decide +kernel
theorem d_M_insert_9 : decode b_M_insert 9 = .ok (.ifCond .eq 7, 3) := by decide +kernel
theorem d_M_insert_12 : decode b_M_insert 12 = .ok (.iconst 1, 1) := by decide +kernel
theorem d_M_insert_13 : decode b_M_insert 13 = .ok (.goto 4, 3) := by decide +kernel
theorem d_M_insert_16 : decode b_M_insert 16 = .ok (.iconst 0, 1) := by decide +kernel
theorem d_M_insert_17 : decode b_M_insert 17 = .ok (.putfield 7, 3) := by decide +kernel
theorem d_M_insert_20 : decode b_M_insert 20 = .ok (.aload_n 0, 1) := by decide +kernel
theorem d_M_insert_21 : decode b_M_insert 21 = .ok (.getfield 7, 3) := by decide +kernel
theorem d_M_insert_24 : decode b_M_insert 24 = .ok (.ifCond .eq 5, 3) := by decide +kernel
theorem d_M_insert_27 : decode b_M_insert 27 = .ok (.iconst 0, 1) := by decide +kernel
theorem d_M_insert_28 : decode b_M_insert 28 = .ok (.ireturn, 1) := by decide +kernel
theorem d_M_insert_29 : decode b_M_insert 29 = .ok (.aload_n 0, 1) := by decide +kernel
theorem d_M_insert_30 : decode b_M_insert 30 = .ok (.iload_n 1, 1) := by decide +kernel
theorem d_M_insert_31 : decode b_M_insert 31 = .ok (.invokevirtual 99, 3) := by decide +kernel
theorem d_M_insert_34 : decode b_M_insert 34 = .ok (.ifCond .ge 25, 3) := by decide +kernel
theorem d_M_insert_37 : decode b_M_insert 37 = .ok (.aload_n 0, 1) := by decide +kernel
theorem d_M_insert_38 : decode b_M_insert 38 = .ok (.getfield 53, 3) := by decide +kernel
theorem d_M_insert_41 : decode b_M_insert 41 = .ok (.iload_n 1, 1) := by decide +kernel
theorem d_M_insert_42 : decode b_M_insert 42 = .ok (.iaload, 1) := by decide +kernel
theorem d_M_insert_43 : decode b_M_insert 43 = .ok (.bipush 20, 2) := by decide +kernel
theorem d_M_insert_45 : decode b_M_insert 45 = .ok (.if_icmp .eq 14, 3) := by decide +kernel
theorem d_M_insert_48 : decode b_M_insert 48 = .ok (.iload_n 3, 1) := by decide +kernel
theorem d_M_insert_49 : decode b_M_insert 49 = .ok (.aload_n 0, 1) := by decide +kernel
theorem d_M_insert_50 : decode b_M_insert 50 = .ok (.getfield 23, 3) := by decide +kernel
theorem d_M_insert_53 : decode b_M_insert 53 = .ok (.invokestatic 91, 3) := by decide +kernel
theorem d_M_insert_56 : decode b_M_insert 56 = .ok (.ifCond .eq 5, 3) := by decide +kernel
theorem d_M_insert_59 : decode b_M_insert 59 = .ok (.iconst 0, 1) := by decide +kernel
theorem d_M_insert_60 : decode b_M_insert 60 = .ok (.ireturn, 1) := by decide +kernel
theorem d_M_insert_61 : decode b_M_insert 61 = .ok (.aload_n 0, 1) := by decide +kernel
theorem d_M_insert_62 : decode b_M_insert 62 = .ok (.getfield 47, 3) := by decide +kernel
theorem d_M_insert_65 : decode b_M_insert 65 = .ok (.iload_n 1, 1) := by decide +kernel
theorem d_M_insert_66 : decode b_M_insert 66 = .ok (.iaload, 1) := by decide +kernel
theorem d_M_insert_67 : decode b_M_insert 67 = .ok (.iload_n 3, 1) := by decide +kernel
theorem d_M_insert_68 : decode b_M_insert 68 = .ok (.ishr, 1) := by decide +kernel
theorem d_M_insert_69 : decode b_M_insert 69 = .ok (.iconst 1, 1) := by decide +kernel
theorem d_M_insert_70 : decode b_M_insert 70 = .ok (.iand, 1) := by decide +kernel
theorem d_M_insert_71 : decode b_M_insert 71 = .ok (.ifCond .eq 30, 3) := by decide +kernel
theorem d_M_insert_74 : decode b_M_insert 74 = .ok (.aload_n 0, 1) := by decide +kernel
theorem d_M_insert_75 : decode b_M_insert 75 = .ok (.aload_n 0, 1) := by decide +kernel
theorem d_M_insert_76 : decode b_M_insert 76 = .ok (.getfield 38, 3) := by decide +kernel
theorem d_M_insert_79 : decode b_M_insert 79 = .ok (.iload_n 1, 1) := by decide +kernel
theorem d_M_insert_80 : decode b_M_insert 80 = .ok (.iaload, 1) := by decide +kernel
theorem d_M_insert_81 : decode b_M_insert 81 = .ok (.aload_n 0, 1) := by decide +kernel
theorem d_M_insert_82 : decode b_M_insert 82 = .ok (.getfield 44, 3) := by decide +kernel
theorem d_M_insert_85 : decode b_M_insert 85 = .ok (.iload_n 1, 1) := by decide +kernel
theorem d_M_insert_86 : decode b_M_insert 86 = .ok (.iaload, 1) := by decide +kernel
theorem d_M_insert_87 : decode b_M_insert 87 = .ok (.iconst 4, 1) := by decide +kernel
theorem d_M_insert_88 : decode b_M_insert 88 = .ok (.irem, 1) := by decide +kernel
theorem d_M_insert_89 : decode b_M_insert 89 = .ok (.aload_n 0, 1) := by decide +kernel
theorem d_M_insert_90 : decode b_M_insert 90 = .ok (.getfield 62, 3) := by decide +kernel
theorem d_M_insert_93 : decode b_M_insert 93 = .ok (.iconst 1, 1) := by decide +kernel
theorem d_M_insert_94 : decode b_M_insert 94 = .ok (.iaload, 1) := by decide +kernel
theorem d_M_insert_95 : decode b_M_insert 95 = .ok (.invokevirtual 102, 3) := by decide +kernel
theorem d_M_insert_98 : decode b_M_insert 98 = .ok (.ifCond .ne 5, 3) := by decide +kernel
theorem d_M_insert_101 : decode b_M_insert 101 = .ok (.iconst 0, 1) := by decide +kernel
theorem d_M_insert_102 : decode b_M_insert 102 = .ok (.ireturn, 1) := by decide +kernel
theorem d_M_insert_103 : decode b_M_insert 103 = .ok (.aload_n 0, 1) := by decide +kernel
theorem d_M_insert_104 : decode b_M_insert 104 = .ok (.getfield 41, 3) := by decide +kernel
theorem d_M_insert_107 : decode b_M_insert 107 = .ok (.iload_n 1, 1) := by decide +kernel
theorem d_M_insert_108 : decode b_M_insert 108 = .ok (.iaload, 1) := by decide +kernel
theorem d_M_insert_109 : decode b_M_insert 109 = .ok (.ifCond .lt 32, 3) := by decide +kernel
theorem d_M_insert_112 : decode b_M_insert 112 = .ok (.aload_n 0, 1) := by decide +kernel
theorem d_M_insert_113 : decode b_M_insert 113 = .ok (.aload_n 0, 1) := by decide +kernel
theorem d_M_insert_114 : decode b_M_insert 114 = .ok (.getfield 41, 3) := by decide +kernel
theorem d_M_insert_117 : decode b_M_insert 117 = .ok (.iload_n 1, 1) := by decide +kernel
theorem d_M_insert_118 : decode b_M_insert 118 = .ok (.iaload, 1) := by decide +kernel
theorem d_M_insert_119 : decode b_M_insert 119 = .ok (.aload_n 0, 1) := by decide +kernel
theorem d_M_insert_120 : decode b_M_insert 120 = .ok (.getfield 44, 3) := by decide +kernel
theorem d_M_insert_123 : decode b_M_insert 123 = .ok (.iload_n 1, 1) := by decide +kernel
theorem d_M_insert_124 : decode b_M_insert 124 = .ok (.iaload, 1) := by decide +kernel
theorem d_M_insert_125 : decode b_M_insert 125 = .ok (.iconst 4, 1) := by decide +kernel
theorem d_M_insert_126 : decode b_M_insert 126 = .ok (.idiv, 1) := by decide +kernel
theorem d_M_insert_127 : decode b_M_insert 127 = .ok (.aload_n 0, 1) := by decide +kernel
theorem d_M_insert_128 : decode b_M_insert 128 = .ok (.getfield 62, 3) := by decide +kernel
theorem d_M_insert_131 : decode b_M_insert 131 = .ok (.iconst 3, 1) := by decide +kernel
theorem d_M_insert_132 : decode b_M_insert 132 = .ok (.iaload, 1) := by decide +kernel
theorem d_M_insert_133 : decode b_M_insert 133 = .ok (.invokevirtual 102, 3) := by decide +kernel
theorem d_M_insert_136 : decode b_M_insert 136 = .ok (.ifCond .ne 5, 3) := by decide +kernel
theorem d_M_insert_139 : decode b_M_insert 139 = .ok (.iconst 0, 1) := by decide +kernel
theorem d_M_insert_140 : decode b_M_insert 140 = .ok (.ireturn, 1) := by decide +kernel
theorem d_M_insert_141 : decode b_M_insert 141 = .ok (.sipush 160, 3) := by decide +kernel
theorem d_M_insert_144 : decode b_M_insert 144 = .ok (.iload_n 1, 1) := by decide +kernel
theorem d_M_insert_145 : decode b_M_insert 145 = .ok (.imul, 1) := by decide +kernel
theorem d_M_insert_146 : decode b_M_insert 146 = .ok (.bipush 8, 2) := by decide +kernel
theorem d_M_insert_148 : decode b_M_insert 148 = .ok (.aload_n 0, 1) := by decide +kernel
theorem d_M_insert_149 : decode b_M_insert 149 = .ok (.getfield 53, 3) := by decide +kernel
theorem d_M_insert_152 : decode b_M_insert 152 = .ok (.iload_n 1, 1) := by decide +kernel
theorem d_M_insert_153 : decode b_M_insert 153 = .ok (.iaload, 1) := by decide +kernel
theorem d_M_insert_154 : decode b_M_insert 154 = .ok (.imul, 1) := by decide +kernel
theorem d_M_insert_155 : decode b_M_insert 155 = .ok (.iadd, 1) := by decide +kernel
theorem d_M_insert_156 : decode b_M_insert 156 = .ok (.istore 6, 2) := by decide +kernel
theorem d_M_insert_158 : decode b_M_insert 158 = .ok (.iconst 0, 1) := by decide +kernel
theorem d_M_insert_159 : decode b_M_insert 159 = .ok (.istore 7, 2) := by decide +kernel
theorem d_M_insert_161 : decode b_M_insert 161 = .ok (.iload 7, 2) := by decide +kernel
theorem d_M_insert_163 : decode b_M_insert 163 = .ok (.iconst 4, 1) := by decide +kernel
theorem d_M_insert_164 : decode b_M_insert 164 = .ok (.if_icmp .ge 26, 3) := by decide +kernel
theorem d_M_insert_167 : decode b_M_insert 167 = .ok (.aload_n 0, 1) := by decide +kernel
theorem d_M_insert_168 : decode b_M_insert 168 = .ok (.getfield 56, 3) := by decide +kernel
theorem d_M_insert_171 : decode b_M_insert 171 = .ok (.iload 6, 2) := by decide +kernel
theorem d_M_insert_173 : decode b_M_insert 173 = .ok (.iload 7, 2) := by decide +kernel
theorem d_M_insert_175 : decode b_M_insert 175 = .ok (.iadd, 1) := by decide +kernel
theorem d_M_insert_176 : decode b_M_insert 176 = .ok (.aload_n 0, 1) := by decide +kernel
theorem d_M_insert_177 : decode b_M_insert 177 = .ok (.getfield 62, 3) := by decide +kernel
theorem d_M_insert_180 : decode b_M_insert 180 = .ok (.iload 7, 2) := by decide +kernel
theorem d_M_insert_182 : decode b_M_insert 182 = .ok (.iaload, 1) := by decide +kernel
theorem d_M_insert_183 : decode b_M_insert 183 = .ok (.iastore, 1) := by decide +kernel
theorem d_M_insert_184 : decode b_M_insert 184 = .ok (.iinc 7 1, 3) := by decide +kernel
theorem d_M_insert_187 : decode b_M_insert 187 = .ok (.goto (-26), 3) := by decide +kernel
theorem d_M_insert_190 : decode b_M_insert 190 = .ok (.aload_n 0, 1) := by decide +kernel
theorem d_M_insert_191 : decode b_M_insert 191 = .ok (.getfield 56, 3) := by decide +kernel
theorem d_M_insert_194 : decode b_M_insert 194 = .ok (.iload 6, 2) := by decide +kernel
theorem d_M_insert_196 : decode b_M_insert 196 = .ok (.iconst 4, 1) := by decide +kernel
theorem d_M_insert_197 : decode b_M_insert 197 = .ok (.iadd, 1) := by decide +kernel
theorem d_M_insert_198 : decode b_M_insert 198 = .ok (.iload_n 2, 1) := by decide +kernel
theorem d_M_insert_199 : decode b_M_insert 199 = .ok (.iastore, 1) := by decide +kernel
theorem d_M_insert_200 : decode b_M_insert 200 = .ok (.aload_n 0, 1) := by decide +kernel
theorem d_M_insert_201 : decode b_M_insert 201 = .ok (.getfield 56, 3) := by decide +kernel
theorem d_M_insert_204 : decode b_M_insert 204 = .ok (.iload 6, 2) := by decide +kernel
theorem d_M_insert_206 : decode b_M_insert 206 = .ok (.iconst 5, 1) := by decide +kernel
theorem d_M_insert_207 : decode b_M_insert 207 = .ok (.iadd, 1) := by decide +kernel
theorem d_M_insert_208 : decode b_M_insert 208 = .ok (.iload_n 3, 1) := by decide +kernel
theorem d_M_insert_209 : decode b_M_insert 209 = .ok (.iastore, 1) := by decide +kernel
theorem d_M_insert_210 : decode b_M_insert 210 = .ok (.aload_n 0, 1) := by decide +kernel
theorem d_M_insert_211 : decode b_M_insert 211 = .ok (.getfield 56, 3) := by decide +kernel
theorem d_M_insert_214 : decode b_M_insert 214 = .ok (.iload 6, 2) := by decide +kernel
theorem d_M_insert_216 : decode b_M_insert 216 = .ok (.bipush 6, 2) := by decide +kernel
theorem d_M_insert_218 : decode b_M_insert 218 = .ok (.iadd, 1) := by decide +kernel
theorem d_M_insert_219 : decode b_M_insert 219 = .ok (.iload 4, 2) := by decide +kernel
theorem d_M_insert_221 : decode b_M_insert 221 = .ok (.iastore, 1) := by decide +kernel
theorem d_M_insert_222 : decode b_M_insert 222 = .ok (.aload_n 0, 1) := by decide +kernel
theorem d_M_insert_223 : decode b_M_insert 223 = .ok (.getfield 56, 3) := by decide +kernel
theorem d_M_insert_226 : decode b_M_insert 226 = .ok (.iload 6, 2) := by decide +kernel
theorem d_M_insert_228 : decode b_M_insert 228 = .ok (.bipush 7, 2) := by decide +kernel
theorem d_M_insert_230 : decode b_M_insert 230 = .ok (.iadd, 1) := by decide +kernel
theorem d_M_insert_231 : decode b_M_insert 231 = .ok (.iload 5, 2) := by decide +kernel
theorem d_M_insert_233 : decode b_M_insert 233 = .ok (.iastore, 1) := by decide +kernel
theorem d_M_insert_234 : decode b_M_insert 234 = .ok (.aload_n 0, 1) := by decide +kernel
theorem d_M_insert_235 : decode b_M_insert 235 = .ok (.getfield 53, 3) := by decide +kernel
theorem d_M_insert_238 : decode b_M_insert 238 = .ok (.iload_n 1, 1) := by decide +kernel
theorem d_M_insert_239 : decode b_M_insert 239 = .ok (.aload_n 0, 1) := by decide +kernel
theorem d_M_insert_240 : decode b_M_insert 240 = .ok (.getfield 53, 3) := by decide +kernel
theorem d_M_insert_243 : decode b_M_insert 243 = .ok (.iload_n 1, 1) := by decide +kernel
theorem d_M_insert_244 : decode b_M_insert 244 = .ok (.iaload, 1) := by decide +kernel
theorem d_M_insert_245 : decode b_M_insert 245 = .ok (.iconst 1, 1) := by decide +kernel
theorem d_M_insert_246 : decode b_M_insert 246 = .ok (.iadd, 1) := by decide +kernel
theorem d_M_insert_247 : decode b_M_insert 247 = .ok (.iastore, 1) := by decide +kernel
theorem d_M_insert_248 : decode b_M_insert 248 = .ok (.iconst 1, 1) := by decide +kernel
theorem d_M_insert_249 : decode b_M_insert 249 = .ok (.ireturn, 1) := by decide +kernel
theorem d_M_find_0 : decode b_M_find 0 = .ok (.aload_n 0, 1) := by decide +kernel
theorem d_M_find_1 : decode b_M_find 1 = .ok (.iload_n 1, 1) := by decide +kernel
theorem d_M_find_2 : decode b_M_find 2 = .ok (.invokevirtual 76, 3) := by decide +kernel
theorem d_M_find_5 : decode b_M_find 5 = .ok (.iconst 0, 1) := by decide +kernel
theorem d_M_find_6 : decode b_M_find 6 = .ok (.istore_n 2, 1) := by decide +kernel
theorem d_M_find_7 : decode b_M_find 7 = .ok (.iload_n 2, 1) := by decide +kernel
theorem d_M_find_8 : decode b_M_find 8 = .ok (.aload_n 0, 1) := by decide +kernel
theorem d_M_find_9 : decode b_M_find 9 = .ok (.getfield 53, 3) := by decide +kernel
theorem d_M_find_12 : decode b_M_find 12 = .ok (.iload_n 1, 1) := by decide +kernel
theorem d_M_find_13 : decode b_M_find 13 = .ok (.iaload, 1) := by decide +kernel
theorem d_M_find_14 : decode b_M_find 14 = .ok (.if_icmp .ge 76, 3) := by decide +kernel
theorem d_M_find_17 : decode b_M_find 17 = .ok (.sipush 160, 3) := by decide +kernel
theorem d_M_find_20 : decode b_M_find 20 = .ok (.iload_n 1, 1) := by decide +kernel
theorem d_M_find_21 : decode b_M_find 21 = .ok (.imul, 1) := by decide +kernel
theorem d_M_find_22 : decode b_M_find 22 = .ok (.bipush 8, 2) := by decide +kernel
theorem d_M_find_24 : decode b_M_find 24 = .ok (.iload_n 2, 1) := by decide +kernel
theorem d_M_find_25 : decode b_M_find 25 = .ok (.imul, 1) := by decide +kernel
theorem d_M_find_26 : decode b_M_find 26 = .ok (.iadd, 1) := by decide +kernel
theorem d_M_find_27 : decode b_M_find 27 = .ok (.istore_n 3, 1) := by decide +kernel
theorem d_M_find_28 : decode b_M_find 28 = .ok (.iconst 1, 1) := by decide +kernel
theorem d_M_find_29 : decode b_M_find 29 = .ok (.istore 4, 2) := by decide +kernel
theorem d_M_find_31 : decode b_M_find 31 = .ok (.iconst 0, 1) := by decide +kernel
theorem d_M_find_32 : decode b_M_find 32 = .ok (.istore 5, 2) := by decide +kernel
theorem d_M_find_34 : decode b_M_find 34 = .ok (.iload 5, 2) := by decide +kernel
theorem d_M_find_36 : decode b_M_find 36 = .ok (.iconst 4, 1) := by decide +kernel
theorem d_M_find_37 : decode b_M_find 37 = .ok (.if_icmp .ge 40, 3) := by decide +kernel
theorem d_M_find_40 : decode b_M_find 40 = .ok (.iload 4, 2) := by decide +kernel
theorem d_M_find_42 : decode b_M_find 42 = .ok (.ifCond .eq 26, 3) := by decide +kernel
theorem d_M_find_45 : decode b_M_find 45 = .ok (.aload_n 0, 1) := by decide +kernel
theorem d_M_find_46 : decode b_M_find 46 = .ok (.getfield 56, 3) := by decide +kernel
theorem d_M_find_49 : decode b_M_find 49 = .ok (.iload_n 3, 1) := by decide +kernel
theorem d_M_find_50 : decode b_M_find 50 = .ok (.iload 5, 2) := by decide +kernel
theorem d_M_find_52 : decode b_M_find 52 = .ok (.iadd, 1) := by decide +kernel
theorem d_M_find_53 : decode b_M_find 53 = .ok (.iaload, 1) := by decide +kernel
theorem d_M_find_54 : decode b_M_find 54 = .ok (.aload_n 0, 1) := by decide +kernel
theorem d_M_find_55 : decode b_M_find 55 = .ok (.getfield 62, 3) := by decide +kernel
theorem d_M_find_58 : decode b_M_find 58 = .ok (.iload 5, 2) := by decide +kernel
theorem d_M_find_60 : decode b_M_find 60 = .ok (.iaload, 1) := by decide +kernel
theorem d_M_find_61 : decode b_M_find 61 = .ok (.if_icmp .ne 7, 3) := by decide +kernel
theorem d_M_find_64 : decode b_M_find 64 = .ok (.iconst 1, 1) := by decide +kernel
theorem d_M_find_65 : decode b_M_find 65 = .ok (.goto 4, 3) := by decide +kernel
theorem d_M_find_68 : decode b_M_find 68 = .ok (.iconst 0, 1) := by decide +kernel
theorem d_M_find_69 : decode b_M_find 69 = .ok (.istore 4, 2) := by decide +kernel
theorem d_M_find_71 : decode b_M_find 71 = .ok (.iinc 5 1, 3) := by decide +kernel
theorem d_M_find_74 : decode b_M_find 74 = .ok (.goto (-40), 3) := by decide +kernel
theorem d_M_find_77 : decode b_M_find 77 = .ok (.iload 4, 2) := by decide +kernel
theorem d_M_find_79 : decode b_M_find 79 = .ok (.ifCond .eq 5, 3) := by decide +kernel
theorem d_M_find_82 : decode b_M_find 82 = .ok (.iload_n 2, 1) := by decide +kernel
theorem d_M_find_83 : decode b_M_find 83 = .ok (.ireturn, 1) := by decide +kernel
theorem d_M_find_84 : decode b_M_find 84 = .ok (.iinc 2 1, 3) := by decide +kernel
theorem d_M_find_87 : decode b_M_find 87 = .ok (.goto (-80), 3) := by decide +kernel
theorem d_M_find_90 : decode b_M_find 90 = .ok (.iconst (-1), 1) := by decide +kernel
theorem d_M_find_91 : decode b_M_find 91 = .ok (.ireturn, 1) := by decide +kernel
theorem d_M_cut_0 : decode b_M_cut 0 = .ok (.aload_n 0, 1) := by decide +kernel
theorem d_M_cut_1 : decode b_M_cut 1 = .ok (.getfield 62, 3) := by decide +kernel
theorem d_M_cut_4 : decode b_M_cut 4 = .ok (.iconst 1, 1) := by decide +kernel
theorem d_M_cut_5 : decode b_M_cut 5 = .ok (.aload_n 0, 1) := by decide +kernel
theorem d_M_cut_6 : decode b_M_cut 6 = .ok (.getfield 59, 3) := by decide +kernel
theorem d_M_cut_9 : decode b_M_cut 9 = .ok (.iconst 1, 1) := by decide +kernel
theorem d_M_cut_10 : decode b_M_cut 10 = .ok (.iaload, 1) := by decide +kernel
theorem d_M_cut_11 : decode b_M_cut 11 = .ok (.aload_n 0, 1) := by decide +kernel
theorem d_M_cut_12 : decode b_M_cut 12 = .ok (.aload_n 0, 1) := by decide +kernel
theorem d_M_cut_13 : decode b_M_cut 13 = .ok (.getfield 38, 3) := by decide +kernel
theorem d_M_cut_16 : decode b_M_cut 16 = .ok (.iload_n 1, 1) := by decide +kernel
theorem d_M_cut_17 : decode b_M_cut 17 = .ok (.iaload, 1) := by decide +kernel
theorem d_M_cut_18 : decode b_M_cut 18 = .ok (.invokevirtual 72, 3) := by decide +kernel
theorem d_M_cut_21 : decode b_M_cut 21 = .ok (.iand, 1) := by decide +kernel
theorem d_M_cut_22 : decode b_M_cut 22 = .ok (.iastore, 1) := by decide +kernel
theorem d_M_cut_23 : decode b_M_cut 23 = .ok (.aload_n 0, 1) := by decide +kernel
theorem d_M_cut_24 : decode b_M_cut 24 = .ok (.getfield 62, 3) := by decide +kernel
theorem d_M_cut_27 : decode b_M_cut 27 = .ok (.iconst 0, 1) := by decide +kernel
theorem d_M_cut_28 : decode b_M_cut 28 = .ok (.aload_n 0, 1) := by decide +kernel
theorem d_M_cut_29 : decode b_M_cut 29 = .ok (.getfield 59, 3) := by decide +kernel
theorem d_M_cut_32 : decode b_M_cut 32 = .ok (.iconst 0, 1) := by decide +kernel
theorem d_M_cut_33 : decode b_M_cut 33 = .ok (.iaload, 1) := by decide +kernel
theorem d_M_cut_34 : decode b_M_cut 34 = .ok (.aload_n 0, 1) := by decide +kernel
theorem d_M_cut_35 : decode b_M_cut 35 = .ok (.getfield 62, 3) := by decide +kernel
theorem d_M_cut_38 : decode b_M_cut 38 = .ok (.iconst 1, 1) := by decide +kernel
theorem d_M_cut_39 : decode b_M_cut 39 = .ok (.iaload, 1) := by decide +kernel
theorem d_M_cut_40 : decode b_M_cut 40 = .ok (.iand, 1) := by decide +kernel
theorem d_M_cut_41 : decode b_M_cut 41 = .ok (.iastore, 1) := by decide +kernel
theorem d_M_cut_42 : decode b_M_cut 42 = .ok (.aload_n 0, 1) := by decide +kernel
theorem d_M_cut_43 : decode b_M_cut 43 = .ok (.getfield 62, 3) := by decide +kernel
theorem d_M_cut_46 : decode b_M_cut 46 = .ok (.iconst 3, 1) := by decide +kernel
theorem d_M_cut_47 : decode b_M_cut 47 = .ok (.aload_n 0, 1) := by decide +kernel
theorem d_M_cut_48 : decode b_M_cut 48 = .ok (.getfield 41, 3) := by decide +kernel
theorem d_M_cut_51 : decode b_M_cut 51 = .ok (.iload_n 1, 1) := by decide +kernel
theorem d_M_cut_52 : decode b_M_cut 52 = .ok (.iaload, 1) := by decide +kernel
theorem d_M_cut_53 : decode b_M_cut 53 = .ok (.ifCond .ge 7, 3) := by decide +kernel
theorem d_M_cut_56 : decode b_M_cut 56 = .ok (.iconst 0, 1) := by decide +kernel
theorem d_M_cut_57 : decode b_M_cut 57 = .ok (.goto 20, 3) := by decide +kernel
theorem d_M_cut_60 : decode b_M_cut 60 = .ok (.aload_n 0, 1) := by decide +kernel
theorem d_M_cut_61 : decode b_M_cut 61 = .ok (.getfield 59, 3) := by decide +kernel
theorem d_M_cut_64 : decode b_M_cut 64 = .ok (.iconst 3, 1) := by decide +kernel
theorem d_M_cut_65 : decode b_M_cut 65 = .ok (.iaload, 1) := by decide +kernel
theorem d_M_cut_66 : decode b_M_cut 66 = .ok (.aload_n 0, 1) := by decide +kernel
theorem d_M_cut_67 : decode b_M_cut 67 = .ok (.aload_n 0, 1) := by decide +kernel
theorem d_M_cut_68 : decode b_M_cut 68 = .ok (.getfield 41, 3) := by decide +kernel
theorem d_M_cut_71 : decode b_M_cut 71 = .ok (.iload_n 1, 1) := by decide +kernel
theorem d_M_cut_72 : decode b_M_cut 72 = .ok (.iaload, 1) := by decide +kernel
theorem d_M_cut_73 : decode b_M_cut 73 = .ok (.invokevirtual 72, 3) := by decide +kernel
theorem d_M_cut_76 : decode b_M_cut 76 = .ok (.iand, 1) := by decide +kernel
theorem d_M_cut_77 : decode b_M_cut 77 = .ok (.iastore, 1) := by decide +kernel
theorem d_M_cut_78 : decode b_M_cut 78 = .ok (.aload_n 0, 1) := by decide +kernel
theorem d_M_cut_79 : decode b_M_cut 79 = .ok (.getfield 62, 3) := by decide +kernel
theorem d_M_cut_82 : decode b_M_cut 82 = .ok (.iconst 2, 1) := by decide +kernel
theorem d_M_cut_83 : decode b_M_cut 83 = .ok (.aload_n 0, 1) := by decide +kernel
theorem d_M_cut_84 : decode b_M_cut 84 = .ok (.getfield 59, 3) := by decide +kernel
theorem d_M_cut_87 : decode b_M_cut 87 = .ok (.iconst 2, 1) := by decide +kernel
theorem d_M_cut_88 : decode b_M_cut 88 = .ok (.iaload, 1) := by decide +kernel
theorem d_M_cut_89 : decode b_M_cut 89 = .ok (.aload_n 0, 1) := by decide +kernel
theorem d_M_cut_90 : decode b_M_cut 90 = .ok (.getfield 62, 3) := by decide +kernel
theorem d_M_cut_93 : decode b_M_cut 93 = .ok (.iconst 3, 1) := by decide +kernel
theorem d_M_cut_94 : decode b_M_cut 94 = .ok (.iaload, 1) := by decide +kernel
theorem d_M_cut_95 : decode b_M_cut 95 = .ok (.iand, 1) := by decide +kernel
theorem d_M_cut_96 : decode b_M_cut 96 = .ok (.iastore, 1) := by decide +kernel
theorem d_M_cut_97 : decode b_M_cut 97 = .ok (.return_, 1) := by decide +kernel
theorem d_M_isMask_0 : decode b_M_isMask 0 = .ok (.aload_n 0, 1) := by decide +kernel
theorem d_M_isMask_1 : decode b_M_isMask 1 = .ok (.iload_n 1, 1) := by decide +kernel
theorem d_M_isMask_2 : decode b_M_isMask 2 = .ok (.invokevirtual 72, 3) := by decide +kernel
theorem d_M_isMask_5 : decode b_M_isMask 5 = .ok (.istore 4, 2) := by decide +kernel
theorem d_M_isMask_7 : decode b_M_isMask 7 = .ok (.iload_n 2, 1) := by decide +kernel
theorem d_M_isMask_8 : decode b_M_isMask 8 = .ok (.ifCond .ne 15, 3) := by decide +kernel
theorem d_M_isMask_11 : decode b_M_isMask 11 = .ok (.iload_n 3, 1) := by decide +kernel
theorem d_M_isMask_12 : decode b_M_isMask 12 = .ok (.iload 4, 2) := by decide +kernel
theorem d_M_isMask_14 : decode b_M_isMask 14 = .ok (.if_icmp .ne 7, 3) := by decide +kernel
theorem d_M_isMask_17 : decode b_M_isMask 17 = .ok (.iconst 1, 1) := by decide +kernel
theorem d_M_isMask_18 : decode b_M_isMask 18 = .ok (.goto 4, 3) := by decide +kernel
theorem d_M_isMask_21 : decode b_M_isMask 21 = .ok (.iconst 0, 1) := by decide +kernel
theorem d_M_isMask_22 : decode b_M_isMask 22 = .ok (.ireturn, 1) := by decide +kernel
theorem d_M_isMask_23 : decode b_M_isMask 23 = .ok (.iload_n 2, 1) := by decide +kernel
theorem d_M_isMask_24 : decode b_M_isMask 24 = .ok (.iconst 2, 1) := by decide +kernel
theorem d_M_isMask_25 : decode b_M_isMask 25 = .ok (.if_icmp .ne 5, 3) := by decide +kernel
theorem d_M_isMask_28 : decode b_M_isMask 28 = .ok (.iconst 1, 1) := by decide +kernel
theorem d_M_isMask_29 : decode b_M_isMask 29 = .ok (.ireturn, 1) := by decide +kernel
theorem d_M_isMask_30 : decode b_M_isMask 30 = .ok (.iload 4, 2) := by decide +kernel
theorem d_M_isMask_32 : decode b_M_isMask 32 = .ok (.istore 5, 2) := by decide +kernel
theorem d_M_isMask_34 : decode b_M_isMask 34 = .ok (.iconst 0, 1) := by decide +kernel
theorem d_M_isMask_35 : decode b_M_isMask 35 = .ok (.istore 6, 2) := by decide +kernel
theorem d_M_isMask_37 : decode b_M_isMask 37 = .ok (.iload 6, 2) := by decide +kernel
theorem d_M_isMask_39 : decode b_M_isMask 39 = .ok (.aload_n 0, 1) := by decide +kernel
theorem d_M_isMask_40 : decode b_M_isMask 40 = .ok (.getfield 16, 3) := by decide +kernel
theorem d_M_isMask_43 : decode b_M_isMask 43 = .ok (.iload_n 1, 1) := by decide +kernel
theorem d_M_isMask_44 : decode b_M_isMask 44 = .ok (.iaload, 1) := by decide +kernel
theorem d_M_isMask_45 : decode b_M_isMask 45 = .ok (.if_icmp .ge 28, 3) := by decide +kernel
theorem d_M_isMask_48 : decode b_M_isMask 48 = .ok (.iload_n 3, 1) := by decide +kernel
theorem d_M_isMask_49 : decode b_M_isMask 49 = .ok (.iload 5, 2) := by decide +kernel
theorem d_M_isMask_51 : decode b_M_isMask 51 = .ok (.if_icmp .ne 5, 3) := by decide +kernel
theorem d_M_isMask_54 : decode b_M_isMask 54 = .ok (.iconst 1, 1) := by decide +kernel
theorem d_M_isMask_55 : decode b_M_isMask 55 = .ok (.ireturn, 1) := by decide +kernel
theorem d_M_isMask_56 : decode b_M_isMask 56 = .ok (.iload 5, 2) := by decide +kernel
theorem d_M_isMask_58 : decode b_M_isMask 58 = .ok (.iconst 1, 1) := by decide +kernel
theorem d_M_isMask_59 : decode b_M_isMask 59 = .ok (.iload 6, 2) := by decide +kernel
theorem d_M_isMask_61 : decode b_M_isMask 61 = .ok (.ishl, 1) := by decide +kernel
theorem d_M_isMask_62 : decode b_M_isMask 62 = .ok (.iconst (-1), 1) := by decide +kernel
theorem d_M_isMask_63 : decode b_M_isMask 63 = .ok (.ixor, 1) := by decide +kernel
theorem d_M_isMask_64 : decode b_M_isMask 64 = .ok (.iand, 1) := by decide +kernel
theorem d_M_isMask_65 : decode b_M_isMask 65 = .ok (.istore 5, 2) := by decide +kernel
theorem d_M_isMask_67 : decode b_M_isMask 67 = .ok (.iinc 6 1, 3) := by decide +kernel
theorem d_M_isMask_70 : decode b_M_isMask 70 = .ok (.goto (-33), 3) := by decide +kernel
theorem d_M_isMask_73 : decode b_M_isMask 73 = .ok (.iload_n 3, 1) := by decide +kernel
theorem d_M_isMask_74 : decode b_M_isMask 74 = .ok (.ifCond .ne 7, 3) := by decide +kernel
theorem d_M_isMask_77 : decode b_M_isMask 77 = .ok (.iconst 1, 1) := by decide +kernel
theorem d_M_isMask_78 : decode b_M_isMask 78 = .ok (.goto 4, 3) := by decide +kernel
theorem d_M_isMask_81 : decode b_M_isMask 81 = .ok (.iconst 0, 1) := by decide +kernel
theorem d_M_isMask_82 : decode b_M_isMask 82 = .ok (.ireturn, 1) := by decide +kernel
theorem d_M_remove_0 : decode b_M_remove 0 = .ok (.aload_n 0, 1) := by decide +kernel
theorem d_M_remove_1 : decode b_M_remove 1 = .ok (.iload_n 1, 1) := by decide +kernel
theorem d_M_remove_2 : decode b_M_remove 2 = .ok (.aload_n 0, 1) := by decide +kernel
theorem d_M_remove_3 : decode b_M_remove 3 = .ok (.getfield 35, 3) := by decide +kernel
theorem d_M_remove_6 : decode b_M_remove 6 = .ok (.invokestatic 91, 3) := by decide +kernel
theorem d_M_remove_9 : decode b_M_remove 9 = .ok (.ifCond .eq 7, 3) := by decide +kernel
theorem d_M_remove_12 : decode b_M_remove 12 = .ok (.iconst 1, 1) := by decide +kernel
theorem d_M_remove_13 : decode b_M_remove 13 = .ok (.goto 4, 3) := by decide +kernel
theorem d_M_remove_16 : decode b_M_remove 16 = .ok (.iconst 0, 1) := by decide +kernel
theorem d_M_remove_17 : decode b_M_remove 17 = .ok (.putfield 7, 3) := by decide +kernel
theorem d_M_remove_20 : decode b_M_remove 20 = .ok (.aload_n 0, 1) := by decide +kernel
theorem d_M_remove_21 : decode b_M_remove 21 = .ok (.getfield 7, 3) := by decide +kernel
theorem d_M_remove_24 : decode b_M_remove 24 = .ok (.ifCond .eq 5, 3) := by decide +kernel
theorem d_M_remove_27 : decode b_M_remove 27 = .ok (.iconst 0, 1) := by decide +kernel
theorem d_M_remove_28 : decode b_M_remove 28 = .ok (.ireturn, 1) := by decide +kernel
theorem d_M_remove_29 : decode b_M_remove 29 = .ok (.aload_n 0, 1) := by decide +kernel
theorem d_M_remove_30 : decode b_M_remove 30 = .ok (.iload_n 1, 1) := by decide +kernel
theorem d_M_remove_31 : decode b_M_remove 31 = .ok (.invokevirtual 99, 3) := by decide +kernel
theorem d_M_remove_34 : decode b_M_remove 34 = .ok (.istore_n 2, 1) := by decide +kernel
theorem d_M_remove_35 : decode b_M_remove 35 = .ok (.iload_n 2, 1) := by decide +kernel
theorem d_M_remove_36 : decode b_M_remove 36 = .ok (.ifCond .ge 5, 3) := by decide +kernel
theorem d_M_remove_39 : decode b_M_remove 39 = .ok (.iconst 0, 1) := by decide +kernel
theorem d_M_remove_40 : decode b_M_remove 40 = .ok (.ireturn, 1) := by decide +kernel
theorem d_M_remove_41 : decode b_M_remove 41 = .ok (.aload_n 0, 1) := by decide +kernel
theorem d_M_remove_42 : decode b_M_remove 42 = .ok (.getfield 53, 3) := by decide +kernel
theorem d_M_remove_45 : decode b_M_remove 45 = .ok (.iload_n 1, 1) := by decide +kernel
theorem d_M_remove_46 : decode b_M_remove 46 = .ok (.aload_n 0, 1) := by decide +kernel
theorem d_M_remove_47 : decode b_M_remove 47 = .ok (.getfield 53, 3) := by decide +kernel
theorem d_M_remove_50 : decode b_M_remove 50 = .ok (.iload_n 1, 1) := by decide +kernel
theorem d_M_remove_51 : decode b_M_remove 51 = .ok (.iaload, 1) := by decide +kernel
theorem d_M_remove_52 : decode b_M_remove 52 = .ok (.iconst 1, 1) := by decide +kernel
theorem d_M_remove_53 : decode b_M_remove 53 = .ok (.isub, 1) := by decide +kernel
theorem d_M_remove_54 : decode b_M_remove 54 = .ok (.iastore, 1) := by decide +kernel
theorem d_M_remove_55 : decode b_M_remove 55 = .ok (.sipush 160, 3) := by decide +kernel
theorem d_M_remove_58 : decode b_M_remove 58 = .ok (.iload_n 1, 1) := by decide +kernel
theorem d_M_remove_59 : decode b_M_remove 59 = .ok (.imul, 1) := by decide +kernel
theorem d_M_remove_60 : decode b_M_remove 60 = .ok (.bipush 8, 2) := by decide +kernel
theorem d_M_remove_62 : decode b_M_remove 62 = .ok (.iload_n 2, 1) := by decide +kernel
theorem d_M_remove_63 : decode b_M_remove 63 = .ok (.imul, 1) := by decide +kernel
theorem d_M_remove_64 : decode b_M_remove 64 = .ok (.iadd, 1) := by decide +kernel
theorem d_M_remove_65 : decode b_M_remove 65 = .ok (.istore_n 3, 1) := by decide +kernel
theorem d_M_remove_66 : decode b_M_remove 66 = .ok (.iload_n 3, 1) := by decide +kernel
theorem d_M_remove_67 : decode b_M_remove 67 = .ok (.sipush 160, 3) := by decide +kernel
theorem d_M_remove_70 : decode b_M_remove 70 = .ok (.iload_n 1, 1) := by decide +kernel
theorem d_M_remove_71 : decode b_M_remove 71 = .ok (.imul, 1) := by decide +kernel
theorem d_M_remove_72 : decode b_M_remove 72 = .ok (.bipush 8, 2) := by decide +kernel
theorem d_M_remove_74 : decode b_M_remove 74 = .ok (.aload_n 0, 1) := by decide +kernel
theorem d_M_remove_75 : decode b_M_remove 75 = .ok (.getfield 53, 3) := by decide +kernel
theorem d_M_remove_78 : decode b_M_remove 78 = .ok (.iload_n 1, 1) := by decide +kernel
theorem d_M_remove_79 : decode b_M_remove 79 = .ok (.iaload, 1) := by decide +kernel
theorem d_M_remove_80 : decode b_M_remove 80 = .ok (.imul, 1) := by decide +kernel
theorem d_M_remove_81 : decode b_M_remove 81 = .ok (.iadd, 1) := by decide +kernel
theorem d_M_remove_82 : decode b_M_remove 82 = .ok (.if_icmp .ge 24, 3) := by decide +kernel
theorem d_M_remove_85 : decode b_M_remove 85 = .ok (.aload_n 0, 1) := by decide +kernel
theorem d_M_remove_86 : decode b_M_remove 86 = .ok (.getfield 56, 3) := by decide +kernel
theorem d_M_remove_89 : decode b_M_remove 89 = .ok (.iload_n 3, 1) := by decide +kernel
theorem d_M_remove_90 : decode b_M_remove 90 = .ok (.aload_n 0, 1) := by decide +kernel
theorem d_M_remove_91 : decode b_M_remove 91 = .ok (.getfield 56, 3) := by decide +kernel
theorem d_M_remove_94 : decode b_M_remove 94 = .ok (.iload_n 3, 1) := by decide +kernel
theorem d_M_remove_95 : decode b_M_remove 95 = .ok (.bipush 8, 2) := by decide +kernel
theorem d_M_remove_97 : decode b_M_remove 97 = .ok (.iadd, 1) := by decide +kernel
theorem d_M_remove_98 : decode b_M_remove 98 = .ok (.iaload, 1) := by decide +kernel
theorem d_M_remove_99 : decode b_M_remove 99 = .ok (.iastore, 1) := by decide +kernel
theorem d_M_remove_100 : decode b_M_remove 100 = .ok (.iinc 3 1, 3) := by decide +kernel
theorem d_M_remove_103 : decode b_M_remove 103 = .ok (.goto (-37), 3) := by decide +kernel
theorem d_M_remove_106 : decode b_M_remove 106 = .ok (.iconst 1, 1) := by decide +kernel
theorem d_M_remove_107 : decode b_M_remove 107 = .ok (.ireturn, 1) := by decide +kernel
theorem d_M_act_0 : decode b_M_act 0 = .ok (.aload_n 0, 1) := by decide +kernel
theorem d_M_act_1 : decode b_M_act 1 = .ok (.iload_n 1, 1) := by decide +kernel
theorem d_M_act_2 : decode b_M_act 2 = .ok (.aload_n 0, 1) := by decide +kernel
theorem d_M_act_3 : decode b_M_act 3 = .ok (.getfield 35, 3) := by decide +kernel
theorem d_M_act_6 : decode b_M_act 6 = .ok (.invokestatic 91, 3) := by decide +kernel
theorem d_M_act_9 : decode b_M_act 9 = .ok (.ifCond .eq 7, 3) := by decide +kernel
theorem d_M_act_12 : decode b_M_act 12 = .ok (.iconst 1, 1) := by decide +kernel
theorem d_M_act_13 : decode b_M_act 13 = .ok (.goto 4, 3) := by decide +kernel
theorem d_M_act_16 : decode b_M_act 16 = .ok (.iconst 0, 1) := by decide +kernel
theorem d_M_act_17 : decode b_M_act 17 = .ok (.putfield 7, 3) := by decide +kernel
theorem d_M_act_20 : decode b_M_act 20 = .ok (.aload_n 0, 1) := by decide +kernel
theorem d_M_act_21 : decode b_M_act 21 = .ok (.getfield 7, 3) := by decide +kernel
theorem d_M_act_24 : decode b_M_act 24 = .ok (.ifCond .eq 5, 3) := by decide +kernel
theorem d_M_act_27 : decode b_M_act 27 = .ok (.iconst 0, 1) := by decide +kernel
theorem d_M_act_28 : decode b_M_act 28 = .ok (.ireturn, 1) := by decide +kernel
theorem d_M_act_29 : decode b_M_act 29 = .ok (.aload_n 0, 1) := by decide +kernel
theorem d_M_act_30 : decode b_M_act 30 = .ok (.iload_n 1, 1) := by decide +kernel
theorem d_M_act_31 : decode b_M_act 31 = .ok (.invokevirtual 106, 3) := by decide +kernel
theorem d_M_act_34 : decode b_M_act 34 = .ok (.istore_n 2, 1) := by decide +kernel
theorem d_M_act_35 : decode b_M_act 35 = .ok (.iload_n 2, 1) := by decide +kernel
theorem d_M_act_36 : decode b_M_act 36 = .ok (.ifCond .ge 12, 3) := by decide +kernel
theorem d_M_act_39 : decode b_M_act 39 = .ok (.aload_n 0, 1) := by decide +kernel
theorem d_M_act_40 : decode b_M_act 40 = .ok (.getfield 50, 3) := by decide +kernel
theorem d_M_act_43 : decode b_M_act 43 = .ok (.iload_n 1, 1) := by decide +kernel
theorem d_M_act_44 : decode b_M_act 44 = .ok (.iaload, 1) := by decide +kernel
theorem d_M_act_45 : decode b_M_act 45 = .ok (.goto 11, 3) := by decide +kernel
theorem d_M_act_48 : decode b_M_act 48 = .ok (.aload_n 0, 1) := by decide +kernel
theorem d_M_act_49 : decode b_M_act 49 = .ok (.getfield 56, 3) := by decide +kernel
theorem d_M_act_52 : decode b_M_act 52 = .ok (.iload_n 2, 1) := by decide +kernel
theorem d_M_act_53 : decode b_M_act 53 = .ok (.iconst 5, 1) := by decide +kernel
theorem d_M_act_54 : decode b_M_act 54 = .ok (.iadd, 1) := by decide +kernel
theorem d_M_act_55 : decode b_M_act 55 = .ok (.iaload, 1) := by decide +kernel
theorem d_M_act_56 : decode b_M_act 56 = .ok (.istore_n 3, 1) := by decide +kernel
theorem d_M_act_57 : decode b_M_act 57 = .ok (.aload_n 0, 1) := by decide +kernel
theorem d_M_act_58 : decode b_M_act 58 = .ok (.iconst 0, 1) := by decide +kernel
theorem d_M_act_59 : decode b_M_act 59 = .ok (.putfield 65, 3) := by decide +kernel
theorem d_M_act_62 : decode b_M_act 62 = .ok (.aload_n 0, 1) := by decide +kernel
theorem d_M_act_63 : decode b_M_act 63 = .ok (.iconst 0, 1) := by decide +kernel
theorem d_M_act_64 : decode b_M_act 64 = .ok (.putfield 68, 3) := by decide +kernel
theorem d_M_act_67 : decode b_M_act 67 = .ok (.iconst 0, 1) := by decide +kernel
theorem d_M_act_68 : decode b_M_act 68 = .ok (.istore 4, 2) := by decide +kernel
theorem d_M_act_70 : decode b_M_act 70 = .ok (.iload 4, 2) := by decide +kernel
theorem d_M_act_72 : decode b_M_act 72 = .ok (.aload_n 0, 1) := by decide +kernel
theorem d_M_act_73 : decode b_M_act 73 = .ok (.getfield 26, 3) := by decide +kernel
theorem d_M_act_76 : decode b_M_act 76 = .ok (.iload_n 3, 1) := by decide +kernel
theorem d_M_act_77 : decode b_M_act 77 = .ok (.iaload, 1) := by decide +kernel
theorem d_M_act_78 : decode b_M_act 78 = .ok (.if_icmp .ge 59, 3) := by decide +kernel
theorem d_M_act_81 : decode b_M_act 81 = .ok (.bipush 16, 2) := by decide +kernel
theorem d_M_act_83 : decode b_M_act 83 = .ok (.iload_n 3, 1) := by decide +kernel
theorem d_M_act_84 : decode b_M_act 84 = .ok (.imul, 1) := by decide +kernel
theorem d_M_act_85 : decode b_M_act 85 = .ok (.iconst 4, 1) := by decide +kernel
theorem d_M_act_86 : decode b_M_act 86 = .ok (.iload 4, 2) := by decide +kernel
theorem d_M_act_88 : decode b_M_act 88 = .ok (.imul, 1) := by decide +kernel
theorem d_M_act_89 : decode b_M_act 89 = .ok (.iadd, 1) := by decide +kernel
theorem d_M_act_90 : decode b_M_act 90 = .ok (.istore 5, 2) := by decide +kernel
theorem d_M_act_92 : decode b_M_act 92 = .ok (.aload_n 0, 1) := by decide +kernel
theorem d_M_act_93 : decode b_M_act 93 = .ok (.aload_n 0, 1) := by decide +kernel
theorem d_M_act_94 : decode b_M_act 94 = .ok (.getfield 29, 3) := by decide +kernel
theorem d_M_act_97 : decode b_M_act 97 = .ok (.iload 5, 2) := by decide +kernel
theorem d_M_act_99 : decode b_M_act 99 = .ok (.iaload, 1) := by decide +kernel
theorem d_M_act_100 : decode b_M_act 100 = .ok (.aload_n 0, 1) := by decide +kernel
theorem d_M_act_101 : decode b_M_act 101 = .ok (.getfield 29, 3) := by decide +kernel
theorem d_M_act_104 : decode b_M_act 104 = .ok (.iload 5, 2) := by decide +kernel
theorem d_M_act_106 : decode b_M_act 106 = .ok (.iconst 1, 1) := by decide +kernel
theorem d_M_act_107 : decode b_M_act 107 = .ok (.iadd, 1) := by decide +kernel
theorem d_M_act_108 : decode b_M_act 108 = .ok (.iaload, 1) := by decide +kernel
theorem d_M_act_109 : decode b_M_act 109 = .ok (.aload_n 0, 1) := by decide +kernel
theorem d_M_act_110 : decode b_M_act 110 = .ok (.getfield 29, 3) := by decide +kernel
theorem d_M_act_113 : decode b_M_act 113 = .ok (.iload 5, 2) := by decide +kernel
theorem d_M_act_115 : decode b_M_act 115 = .ok (.iconst 2, 1) := by decide +kernel
theorem d_M_act_116 : decode b_M_act 116 = .ok (.iadd, 1) := by decide +kernel
theorem d_M_act_117 : decode b_M_act 117 = .ok (.iaload, 1) := by decide +kernel
theorem d_M_act_118 : decode b_M_act 118 = .ok (.aload_n 0, 1) := by decide +kernel
theorem d_M_act_119 : decode b_M_act 119 = .ok (.getfield 29, 3) := by decide +kernel
theorem d_M_act_122 : decode b_M_act 122 = .ok (.iload 5, 2) := by decide +kernel
theorem d_M_act_124 : decode b_M_act 124 = .ok (.iconst 3, 1) := by decide +kernel
theorem d_M_act_125 : decode b_M_act 125 = .ok (.iadd, 1) := by decide +kernel
theorem d_M_act_126 : decode b_M_act 126 = .ok (.iaload, 1) := by decide +kernel
theorem d_M_act_127 : decode b_M_act 127 = .ok (.iload_n 2, 1) := by decide +kernel
theorem d_M_act_128 : decode b_M_act 128 = .ok (.invokevirtual 109, 3) := by decide +kernel
theorem d_M_act_131 : decode b_M_act 131 = .ok (.iinc 4 1, 3) := by decide +kernel
theorem d_M_act_134 : decode b_M_act 134 = .ok (.goto (-64), 3) := by decide +kernel
theorem d_M_act_137 : decode b_M_act 137 = .ok (.iload_n 2, 1) := by decide +kernel
theorem d_M_act_138 : decode b_M_act 138 = .ok (.ifCond .lt 7, 3) := by decide +kernel
theorem d_M_act_141 : decode b_M_act 141 = .ok (.iconst 1, 1) := by decide +kernel
theorem d_M_act_142 : decode b_M_act 142 = .ok (.goto 4, 3) := by decide +kernel
theorem d_M_act_145 : decode b_M_act 145 = .ok (.iconst 0, 1) := by decide +kernel
theorem d_M_act_146 : decode b_M_act 146 = .ok (.ireturn, 1) := by decide +kernel
theorem d_M_match_0 : decode b_M_match 0 = .ok (.iconst (-1), 1) := by decide +kernel
theorem d_M_match_1 : decode b_M_match 1 = .ok (.istore_n 2, 1) := by decide +kernel
theorem d_M_match_2 : decode b_M_match 2 = .ok (.iconst 0, 1) := by decide +kernel
theorem d_M_match_3 : decode b_M_match 3 = .ok (.istore_n 3, 1) := by decide +kernel
theorem d_M_match_4 : decode b_M_match 4 = .ok (.iload_n 3, 1) := by decide +kernel
theorem d_M_match_5 : decode b_M_match 5 = .ok (.aload_n 0, 1) := by decide +kernel
theorem d_M_match_6 : decode b_M_match 6 = .ok (.getfield 53, 3) := by decide +kernel
theorem d_M_match_9 : decode b_M_match 9 = .ok (.iload_n 1, 1) := by decide +kernel
theorem d_M_match_10 : decode b_M_match 10 = .ok (.iaload, 1) := by decide +kernel
theorem d_M_match_11 : decode b_M_match 11 = .ok (.if_icmp .ge 172, 3) := by decide +kernel
theorem d_M_match_14 : decode b_M_match 14 = .ok (.sipush 160, 3) := by decide +kernel
theorem d_M_match_17 : decode b_M_match 17 = .ok (.iload_n 1, 1) := by decide +kernel
theorem d_M_match_18 : decode b_M_match 18 = .ok (.imul, 1) := by decide +kernel
theorem d_M_match_19 : decode b_M_match 19 = .ok (.bipush 8, 2) := by decide +kernel
theorem d_M_match_21 : decode b_M_match 21 = .ok (.iload_n 3, 1) := by decide +kernel
theorem d_M_match_22 : decode b_M_match 22 = .ok (.imul, 1) := by decide +kernel
theorem d_M_match_23 : decode b_M_match 23 = .ok (.iadd, 1) := by decide +kernel
theorem d_M_match_24 : decode b_M_match 24 = .ok (.istore 4, 2) := by decide +kernel
theorem d_M_match_26 : decode b_M_match 26 = .ok (.aload_n 0, 1) := by decide +kernel
theorem d_M_match_27 : decode b_M_match 27 = .ok (.getfield 20, 3) := by decide +kernel
theorem d_M_match_30 : decode b_M_match 30 = .ok (.aload_n 0, 1) := by decide +kernel
theorem d_M_match_31 : decode b_M_match 31 = .ok (.getfield 38, 3) := by decide +kernel
theorem d_M_match_34 : decode b_M_match 34 = .ok (.iload_n 1, 1) := by decide +kernel
theorem d_M_match_35 : decode b_M_match 35 = .ok (.iaload, 1) := by decide +kernel
theorem d_M_match_36 : decode b_M_match 36 = .ok (.iaload, 1) := by decide +kernel
theorem d_M_match_37 : decode b_M_match 37 = .ok (.aload_n 0, 1) := by decide +kernel
theorem d_M_match_38 : decode b_M_match 38 = .ok (.getfield 56, 3) := by decide +kernel
theorem d_M_match_41 : decode b_M_match 41 = .ok (.iload 4, 2) := by decide +kernel
theorem d_M_match_43 : decode b_M_match 43 = .ok (.iaload, 1) := by decide +kernel
theorem d_M_match_44 : decode b_M_match 44 = .ok (.ixor, 1) := by decide +kernel
theorem d_M_match_45 : decode b_M_match 45 = .ok (.aload_n 0, 1) := by decide +kernel
theorem d_M_match_46 : decode b_M_match 46 = .ok (.getfield 56, 3) := by decide +kernel
theorem d_M_match_49 : decode b_M_match 49 = .ok (.iload 4, 2) := by decide +kernel
theorem d_M_match_51 : decode b_M_match 51 = .ok (.iconst 1, 1) := by decide +kernel
theorem d_M_match_52 : decode b_M_match 52 = .ok (.iadd, 1) := by decide +kernel
theorem d_M_match_53 : decode b_M_match 53 = .ok (.iaload, 1) := by decide +kernel
theorem d_M_match_54 : decode b_M_match 54 = .ok (.iand, 1) := by decide +kernel
theorem d_M_match_55 : decode b_M_match 55 = .ok (.ifCond .ne 50, 3) := by decide +kernel
theorem d_M_match_58 : decode b_M_match 58 = .ok (.aload_n 0, 1) := by decide +kernel
theorem d_M_match_59 : decode b_M_match 59 = .ok (.getfield 41, 3) := by decide +kernel
theorem d_M_match_62 : decode b_M_match 62 = .ok (.iload_n 1, 1) := by decide +kernel
theorem d_M_match_63 : decode b_M_match 63 = .ok (.iaload, 1) := by decide +kernel
theorem d_M_match_64 : decode b_M_match 64 = .ok (.ifCond .lt 37, 3) := by decide +kernel
theorem d_M_match_67 : decode b_M_match 67 = .ok (.aload_n 0, 1) := by decide +kernel
theorem d_M_match_68 : decode b_M_match 68 = .ok (.getfield 20, 3) := by decide +kernel
theorem d_M_match_71 : decode b_M_match 71 = .ok (.aload_n 0, 1) := by decide +kernel
theorem d_M_match_72 : decode b_M_match 72 = .ok (.getfield 41, 3) := by decide +kernel
theorem d_M_match_75 : decode b_M_match 75 = .ok (.iload_n 1, 1) := by decide +kernel
theorem d_M_match_76 : decode b_M_match 76 = .ok (.iaload, 1) := by decide +kernel
theorem d_M_match_77 : decode b_M_match 77 = .ok (.iaload, 1) := by decide +kernel
theorem d_M_match_78 : decode b_M_match 78 = .ok (.aload_n 0, 1) := by decide +kernel
theorem d_M_match_79 : decode b_M_match 79 = .ok (.getfield 56, 3) := by decide +kernel
theorem d_M_match_82 : decode b_M_match 82 = .ok (.iload 4, 2) := by decide +kernel
theorem d_M_match_84 : decode b_M_match 84 = .ok (.iconst 2, 1) := by decide +kernel
theorem d_M_match_85 : decode b_M_match 85 = .ok (.iadd, 1) := by decide +kernel
theorem d_M_match_86 : decode b_M_match 86 = .ok (.iaload, 1) := by decide +kernel
theorem d_M_match_87 : decode b_M_match 87 = .ok (.ixor, 1) := by decide +kernel
theorem d_M_match_88 : decode b_M_match 88 = .ok (.aload_n 0, 1) := by decide +kernel
theorem d_M_match_89 : decode b_M_match 89 = .ok (.getfield 56, 3) := by decide +kernel
theorem d_M_match_92 : decode b_M_match 92 = .ok (.iload 4, 2) := by decide +kernel
theorem d_M_match_94 : decode b_M_match 94 = .ok (.iconst 3, 1) := by decide +kernel
theorem d_M_match_95 : decode b_M_match 95 = .ok (.iadd, 1) := by decide +kernel
theorem d_M_match_96 : decode b_M_match 96 = .ok (.iaload, 1) := by decide +kernel
theorem d_M_match_97 : decode b_M_match 97 = .ok (.iand, 1) := by decide +kernel
theorem d_M_match_98 : decode b_M_match 98 = .ok (.ifCond .ne 7, 3) := by decide +kernel
theorem d_M_match_101 : decode b_M_match 101 = .ok (.iconst 1, 1) := by decide +kernel
theorem d_M_match_102 : decode b_M_match 102 = .ok (.goto 4, 3) := by decide +kernel
theorem d_M_match_105 : decode b_M_match 105 = .ok (.iconst 0, 1) := by decide +kernel
theorem d_M_match_106 : decode b_M_match 106 = .ok (.istore 5, 2) := by decide +kernel
theorem d_M_match_108 : decode b_M_match 108 = .ok (.iload 5, 2) := by decide +kernel
theorem d_M_match_110 : decode b_M_match 110 = .ok (.ifCond .eq 13, 3) := by decide +kernel
theorem d_M_match_113 : decode b_M_match 113 = .ok (.iload_n 2, 1) := by decide +kernel
theorem d_M_match_114 : decode b_M_match 114 = .ok (.ifCond .ge 9, 3) := by decide +kernel
theorem d_M_match_117 : decode b_M_match 117 = .ok (.iload 4, 2) := by decide +kernel
theorem d_M_match_119 : decode b_M_match 119 = .ok (.istore_n 2, 1) := by decide +kernel
theorem d_M_match_120 : decode b_M_match 120 = .ok (.goto 57, 3) := by decide +kernel
theorem d_M_match_123 : decode b_M_match 123 = .ok (.iload 5, 2) := by decide +kernel
theorem d_M_match_125 : decode b_M_match 125 = .ok (.ifCond .eq 52, 3) := by decide +kernel
theorem d_M_match_128 : decode b_M_match 128 = .ok (.aload_n 0, 1) := by decide +kernel
theorem d_M_match_129 : decode b_M_match 129 = .ok (.iload_n 1, 1) := by decide +kernel
theorem d_M_match_130 : decode b_M_match 130 = .ok (.iload 4, 2) := by decide +kernel
theorem d_M_match_132 : decode b_M_match 132 = .ok (.invokevirtual 83, 3) := by decide +kernel
theorem d_M_match_135 : decode b_M_match 135 = .ok (.aload_n 0, 1) := by decide +kernel
theorem d_M_match_136 : decode b_M_match 136 = .ok (.iload_n 1, 1) := by decide +kernel
theorem d_M_match_137 : decode b_M_match 137 = .ok (.iload_n 2, 1) := by decide +kernel
theorem d_M_match_138 : decode b_M_match 138 = .ok (.invokevirtual 83, 3) := by decide +kernel
theorem d_M_match_141 : decode b_M_match 141 = .ok (.isub, 1) := by decide +kernel
theorem d_M_match_142 : decode b_M_match 142 = .ok (.istore 6, 2) := by decide +kernel
theorem d_M_match_144 : decode b_M_match 144 = .ok (.iload 6, 2) := by decide +kernel
theorem d_M_match_146 : decode b_M_match 146 = .ok (.ifCond .gt 28, 3) := by decide +kernel
theorem d_M_match_149 : decode b_M_match 149 = .ok (.iload 6, 2) := by decide +kernel
theorem d_M_match_151 : decode b_M_match 151 = .ok (.ifCond .ne 26, 3) := by decide +kernel
theorem d_M_match_154 : decode b_M_match 154 = .ok (.aload_n 0, 1) := by decide +kernel
theorem d_M_match_155 : decode b_M_match 155 = .ok (.getfield 56, 3) := by decide +kernel
theorem d_M_match_158 : decode b_M_match 158 = .ok (.iload 4, 2) := by decide +kernel
theorem d_M_match_160 : decode b_M_match 160 = .ok (.iconst 4, 1) := by decide +kernel
theorem d_M_match_161 : decode b_M_match 161 = .ok (.iadd, 1) := by decide +kernel
theorem d_M_match_162 : decode b_M_match 162 = .ok (.iaload, 1) := by decide +kernel
theorem d_M_match_163 : decode b_M_match 163 = .ok (.aload_n 0, 1) := by decide +kernel
theorem d_M_match_164 : decode b_M_match 164 = .ok (.getfield 56, 3) := by decide +kernel
theorem d_M_match_167 : decode b_M_match 167 = .ok (.iload_n 2, 1) := by decide +kernel
theorem d_M_match_168 : decode b_M_match 168 = .ok (.iconst 4, 1) := by decide +kernel
theorem d_M_match_169 : decode b_M_match 169 = .ok (.iadd, 1) := by decide +kernel
theorem d_M_match_170 : decode b_M_match 170 = .ok (.iaload, 1) := by decide +kernel
theorem d_M_match_171 : decode b_M_match 171 = .ok (.if_icmp .le 6, 3) := by decide +kernel
theorem d_M_match_174 : decode b_M_match 174 = .ok (.iload 4, 2) := by decide +kernel
theorem d_M_match_176 : decode b_M_match 176 = .ok (.istore_n 2, 1) := by decide +kernel
theorem d_M_match_177 : decode b_M_match 177 = .ok (.iinc 3 1, 3) := by decide +kernel
theorem d_M_match_180 : decode b_M_match 180 = .ok (.goto (-176), 3) := by decide +kernel
theorem d_M_match_183 : decode b_M_match 183 = .ok (.iload_n 2, 1) := by decide +kernel
theorem d_M_match_184 : decode b_M_match 184 = .ok (.ireturn, 1) := by decide +kernel
theorem d_M_prefix_0 : decode b_M_prefix 0 = .ok (.aload_n 0, 1) := by decide +kernel
theorem d_M_prefix_1 : decode b_M_prefix 1 = .ok (.getfield 44, 3) := by decide +kernel
theorem d_M_prefix_4 : decode b_M_prefix 4 = .ok (.iload_n 1, 1) := by decide +kernel
theorem d_M_prefix_5 : decode b_M_prefix 5 = .ok (.iaload, 1) := by decide +kernel
theorem d_M_prefix_6 : decode b_M_prefix 6 = .ok (.iconst 4, 1) := by decide +kernel
theorem d_M_prefix_7 : decode b_M_prefix 7 = .ok (.irem, 1) := by decide +kernel
theorem d_M_prefix_8 : decode b_M_prefix 8 = .ok (.iconst 1, 1) := by decide +kernel
theorem d_M_prefix_9 : decode b_M_prefix 9 = .ok (.if_icmp .ne 17, 3) := by decide +kernel
theorem d_M_prefix_12 : decode b_M_prefix 12 = .ok (.aload_n 0, 1) := by decide +kernel
theorem d_M_prefix_13 : decode b_M_prefix 13 = .ok (.getfield 56, 3) := by decide +kernel
theorem d_M_prefix_16 : decode b_M_prefix 16 = .ok (.iload_n 2, 1) := by decide +kernel
theorem d_M_prefix_17 : decode b_M_prefix 17 = .ok (.iconst 1, 1) := by decide +kernel
theorem d_M_prefix_18 : decode b_M_prefix 18 = .ok (.iadd, 1) := by decide +kernel
theorem d_M_prefix_19 : decode b_M_prefix 19 = .ok (.iaload, 1) := by decide +kernel
theorem d_M_prefix_20 : decode b_M_prefix 20 = .ok (.invokestatic 80, 3) := by decide +kernel
theorem d_M_prefix_23 : decode b_M_prefix 23 = .ok (.goto 30, 3) := by decide +kernel
theorem d_M_prefix_26 : decode b_M_prefix 26 = .ok (.aload_n 0, 1) := by decide +kernel
theorem d_M_prefix_27 : decode b_M_prefix 27 = .ok (.getfield 44, 3) := by decide +kernel
theorem d_M_prefix_30 : decode b_M_prefix 30 = .ok (.iload_n 1, 1) := by decide +kernel
theorem d_M_prefix_31 : decode b_M_prefix 31 = .ok (.iaload, 1) := by decide +kernel
theorem d_M_prefix_32 : decode b_M_prefix 32 = .ok (.iconst 4, 1) := by decide +kernel
theorem d_M_prefix_33 : decode b_M_prefix 33 = .ok (.idiv, 1) := by decide +kernel
theorem d_M_prefix_34 : decode b_M_prefix 34 = .ok (.iconst 1, 1) := by decide +kernel
theorem d_M_prefix_35 : decode b_M_prefix 35 = .ok (.if_icmp .ne 17, 3) := by decide +kernel
theorem d_M_prefix_38 : decode b_M_prefix 38 = .ok (.aload_n 0, 1) := by decide +kernel
theorem d_M_prefix_39 : decode b_M_prefix 39 = .ok (.getfield 56, 3) := by decide +kernel
theorem d_M_prefix_42 : decode b_M_prefix 42 = .ok (.iload_n 2, 1) := by decide +kernel
theorem d_M_prefix_43 : decode b_M_prefix 43 = .ok (.iconst 3, 1) := by decide +kernel
theorem d_M_prefix_44 : decode b_M_prefix 44 = .ok (.iadd, 1) := by decide +kernel
theorem d_M_prefix_45 : decode b_M_prefix 45 = .ok (.iaload, 1) := by decide +kernel
theorem d_M_prefix_46 : decode b_M_prefix 46 = .ok (.invokestatic 80, 3) := by decide +kernel
theorem d_M_prefix_49 : decode b_M_prefix 49 = .ok (.goto 4, 3) := by decide +kernel
theorem d_M_prefix_52 : decode b_M_prefix 52 = .ok (.iconst 0, 1) := by decide +kernel
theorem d_M_prefix_53 : decode b_M_prefix 53 = .ok (.ireturn, 1) := by decide +kernel
theorem d_M_bits_0 : decode b_M_bits 0 = .ok (.iconst 0, 1) := by decide +kernel
theorem d_M_bits_1 : decode b_M_bits 1 = .ok (.istore_n 1, 1) := by decide +kernel
theorem d_M_bits_2 : decode b_M_bits 2 = .ok (.iconst 0, 1) := by decide +kernel
theorem d_M_bits_3 : decode b_M_bits 3 = .ok (.istore_n 2, 1) := by decide +kernel
theorem d_M_bits_4 : decode b_M_bits 4 = .ok (.iload_n 2, 1) := by decide +kernel
theorem d_M_bits_5 : decode b_M_bits 5 = .ok (.bipush 32, 2) := by decide +kernel
theorem d_M_bits_7 : decode b_M_bits 7 = .ok (.if_icmp .ge 17, 3) := by decide +kernel
theorem d_M_bits_10 : decode b_M_bits 10 = .ok (.iload_n 1, 1) := by decide +kernel
theorem d_M_bits_11 : decode b_M_bits 11 = .ok (.iload_n 0, 1) := by decide +kernel
theorem d_M_bits_12 : decode b_M_bits 12 = .ok (.iload_n 2, 1) := by decide +kernel
theorem d_M_bits_13 : decode b_M_bits 13 = .ok (.iushr, 1) := by decide +kernel
theorem d_M_bits_14 : decode b_M_bits 14 = .ok (.iconst 1, 1) := by decide +kernel
theorem d_M_bits_15 : decode b_M_bits 15 = .ok (.iand, 1) := by decide +kernel
theorem d_M_bits_16 : decode b_M_bits 16 = .ok (.iadd, 1) := by decide +kernel
theorem d_M_bits_17 : decode b_M_bits 17 = .ok (.istore_n 1, 1) := by decide +kernel
theorem d_M_bits_18 : decode b_M_bits 18 = .ok (.iinc 2 1, 3) := by decide +kernel
theorem d_M_bits_21 : decode b_M_bits 21 = .ok (.goto (-17), 3) := by decide +kernel
theorem d_M_bits_24 : decode b_M_bits 24 = .ok (.iload_n 1, 1) := by decide +kernel
theorem d_M_bits_25 : decode b_M_bits 25 = .ok (.ireturn, 1) := by decide +kernel
theorem d_M_does_0 : decode b_M_does 0 = .ok (.iload_n 1, 1) := by decide +kernel
theorem d_M_does_1 : decode b_M_does 1 = .ok (.ifCond .ne 9, 3) := by decide +kernel
theorem d_M_does_4 : decode b_M_does 4 = .ok (.aload_n 0, 1) := by decide +kernel
theorem d_M_does_5 : decode b_M_does 5 = .ok (.iload_n 2, 1) := by decide +kernel
theorem d_M_does_6 : decode b_M_does 6 = .ok (.iload_n 3, 1) := by decide +kernel
theorem d_M_does_7 : decode b_M_does 7 = .ok (.invokevirtual 87, 3) := by decide +kernel
theorem d_M_does_10 : decode b_M_does 10 = .ok (.iload_n 1, 1) := by decide +kernel
theorem d_M_does_11 : decode b_M_does 11 = .ok (.iconst 1, 1) := by decide +kernel
theorem d_M_does_12 : decode b_M_does 12 = .ok (.if_icmp .ne 14, 3) := by decide +kernel
theorem d_M_does_15 : decode b_M_does 15 = .ok (.aload_n 0, 1) := by decide +kernel
theorem d_M_does_16 : decode b_M_does 16 = .ok (.iload_n 2, 1) := by decide +kernel
theorem d_M_does_17 : decode b_M_does 17 = .ok (.aload_n 0, 1) := by decide +kernel
theorem d_M_does_18 : decode b_M_does 18 = .ok (.getfield 20, 3) := by decide +kernel
theorem d_M_does_21 : decode b_M_does 21 = .ok (.iload_n 3, 1) := by decide +kernel
theorem d_M_does_22 : decode b_M_does 22 = .ok (.iaload, 1) := by decide +kernel
theorem d_M_does_23 : decode b_M_does 23 = .ok (.invokevirtual 87, 3) := by decide +kernel
theorem d_M_does_26 : decode b_M_does 26 = .ok (.iload_n 1, 1) := by decide +kernel
theorem d_M_does_27 : decode b_M_does 27 = .ok (.iconst 2, 1) := by decide +kernel
theorem d_M_does_28 : decode b_M_does 28 = .ok (.if_icmp .ne 24, 3) := by decide +kernel
theorem d_M_does_31 : decode b_M_does 31 = .ok (.aload_n 0, 1) := by decide +kernel
theorem d_M_does_32 : decode b_M_does 32 = .ok (.iload_n 2, 1) := by decide +kernel
theorem d_M_does_33 : decode b_M_does 33 = .ok (.aload_n 0, 1) := by decide +kernel
theorem d_M_does_34 : decode b_M_does 34 = .ok (.getfield 20, 3) := by decide +kernel
theorem d_M_does_37 : decode b_M_does 37 = .ok (.iload_n 2, 1) := by decide +kernel
theorem d_M_does_38 : decode b_M_does 38 = .ok (.iaload, 1) := by decide +kernel
theorem d_M_does_39 : decode b_M_does 39 = .ok (.aload_n 0, 1) := by decide +kernel
theorem d_M_does_40 : decode b_M_does 40 = .ok (.getfield 20, 3) := by decide +kernel
theorem d_M_does_43 : decode b_M_does 43 = .ok (.iload_n 3, 1) := by decide +kernel
theorem d_M_does_44 : decode b_M_does 44 = .ok (.iaload, 1) := by decide +kernel
theorem d_M_does_45 : decode b_M_does 45 = .ok (.iadd, 1) := by decide +kernel
theorem d_M_does_46 : decode b_M_does 46 = .ok (.iload 4, 2) := by decide +kernel
theorem d_M_does_48 : decode b_M_does 48 = .ok (.iadd, 1) := by decide +kernel
theorem d_M_does_49 : decode b_M_does 49 = .ok (.invokevirtual 87, 3) := by decide +kernel
theorem d_M_does_52 : decode b_M_does 52 = .ok (.iload_n 1, 1) := by decide +kernel
theorem d_M_does_53 : decode b_M_does 53 = .ok (.iconst 3, 1) := by decide +kernel
theorem d_M_does_54 : decode b_M_does 54 = .ok (.if_icmp .ne 29, 3) := by decide +kernel
theorem d_M_does_57 : decode b_M_does 57 = .ok (.aload_n 0, 1) := by decide +kernel
theorem d_M_does_58 : decode b_M_does 58 = .ok (.iload_n 2, 1) := by decide +kernel
theorem d_M_does_59 : decode b_M_does 59 = .ok (.iload 5, 2) := by decide +kernel
theorem d_M_does_61 : decode b_M_does 61 = .ok (.ifCond .ge 7, 3) := by decide +kernel
theorem d_M_does_64 : decode b_M_does 64 = .ok (.iconst 0, 1) := by decide +kernel
theorem d_M_does_65 : decode b_M_does 65 = .ok (.goto 15, 3) := by decide +kernel
theorem d_M_does_68 : decode b_M_does 68 = .ok (.aload_n 0, 1) := by decide +kernel
theorem d_M_does_69 : decode b_M_does 69 = .ok (.getfield 56, 3) := by decide +kernel
theorem d_M_does_72 : decode b_M_does 72 = .ok (.iload 5, 2) := by decide +kernel
theorem d_M_does_74 : decode b_M_does 74 = .ok (.bipush 6, 2) := by decide +kernel
theorem d_M_does_76 : decode b_M_does 76 = .ok (.iadd, 1) := by decide +kernel
theorem d_M_does_77 : decode b_M_does 77 = .ok (.iload_n 3, 1) := by decide +kernel
theorem d_M_does_78 : decode b_M_does 78 = .ok (.iadd, 1) := by decide +kernel
theorem d_M_does_79 : decode b_M_does 79 = .ok (.iaload, 1) := by decide +kernel
theorem d_M_does_80 : decode b_M_does 80 = .ok (.invokevirtual 87, 3) := by decide +kernel
theorem d_M_does_83 : decode b_M_does 83 = .ok (.iload_n 1, 1) := by decide +kernel
theorem d_M_does_84 : decode b_M_does 84 = .ok (.iconst 4, 1) := by decide +kernel
theorem d_M_does_85 : decode b_M_does 85 = .ok (.if_icmp .ne 8, 3) := by decide +kernel
theorem d_M_does_88 : decode b_M_does 88 = .ok (.aload_n 0, 1) := by decide +kernel
theorem d_M_does_89 : decode b_M_does 89 = .ok (.iload_n 3, 1) := by decide +kernel
theorem d_M_does_90 : decode b_M_does 90 = .ok (.putfield 65, 3) := by decide +kernel
theorem d_M_does_93 : decode b_M_does 93 = .ok (.iload_n 1, 1) := by decide +kernel
theorem d_M_does_94 : decode b_M_does 94 = .ok (.iconst 5, 1) := by decide +kernel
theorem d_M_does_95 : decode b_M_does 95 = .ok (.if_icmp .ne 28, 3) := by decide +kernel
theorem d_M_does_98 : decode b_M_does 98 = .ok (.aload_n 0, 1) := by decide +kernel
theorem d_M_does_99 : decode b_M_does 99 = .ok (.iload 5, 2) := by decide +kernel
theorem d_M_does_101 : decode b_M_does 101 = .ok (.ifCond .ge 7, 3) := by decide +kernel
theorem d_M_does_104 : decode b_M_does 104 = .ok (.iconst 0, 1) := by decide +kernel
theorem d_M_does_105 : decode b_M_does 105 = .ok (.goto 15, 3) := by decide +kernel
theorem d_M_does_108 : decode b_M_does 108 = .ok (.aload_n 0, 1) := by decide +kernel
theorem d_M_does_109 : decode b_M_does 109 = .ok (.getfield 56, 3) := by decide +kernel
theorem d_M_does_112 : decode b_M_does 112 = .ok (.iload 5, 2) := by decide +kernel
theorem d_M_does_114 : decode b_M_does 114 = .ok (.bipush 6, 2) := by decide +kernel
theorem d_M_does_116 : decode b_M_does 116 = .ok (.iadd, 1) := by decide +kernel
theorem d_M_does_117 : decode b_M_does 117 = .ok (.iload_n 3, 1) := by decide +kernel
theorem d_M_does_118 : decode b_M_does 118 = .ok (.iadd, 1) := by decide +kernel
theorem d_M_does_119 : decode b_M_does 119 = .ok (.iaload, 1) := by decide +kernel
theorem d_M_does_120 : decode b_M_does 120 = .ok (.putfield 65, 3) := by decide +kernel
theorem d_M_does_123 : decode b_M_does 123 = .ok (.iload_n 1, 1) := by decide +kernel
theorem d_M_does_124 : decode b_M_does 124 = .ok (.bipush 6, 2) := by decide +kernel
theorem d_M_does_126 : decode b_M_does 126 = .ok (.if_icmp .ne 8, 3) := by decide +kernel
theorem d_M_does_129 : decode b_M_does 129 = .ok (.aload_n 0, 1) := by decide +kernel
theorem d_M_does_130 : decode b_M_does 130 = .ok (.iconst 1, 1) := by decide +kernel
theorem d_M_does_131 : decode b_M_does 131 = .ok (.putfield 68, 3) := by decide +kernel
theorem d_M_does_134 : decode b_M_does 134 = .ok (.iload_n 1, 1) := by decide +kernel
theorem d_M_does_135 : decode b_M_does 135 = .ok (.bipush 7, 2) := by decide +kernel
theorem d_M_does_137 : decode b_M_does 137 = .ok (.if_icmp .ne 44, 3) := by decide +kernel
theorem d_M_does_140 : decode b_M_does 140 = .ok (.aload_n 0, 1) := by decide +kernel
theorem d_M_does_141 : decode b_M_does 141 = .ok (.getfield 32, 3) := by decide +kernel
theorem d_M_does_144 : decode b_M_does 144 = .ok (.bipush 16, 2) := by decide +kernel
theorem d_M_does_146 : decode b_M_does 146 = .ok (.iload_n 2, 1) := by decide +kernel
theorem d_M_does_147 : decode b_M_does 147 = .ok (.imul, 1) := by decide +kernel
theorem d_M_does_148 : decode b_M_does 148 = .ok (.aload_n 0, 1) := by decide +kernel
theorem d_M_does_149 : decode b_M_does 149 = .ok (.getfield 20, 3) := by decide +kernel
theorem d_M_does_152 : decode b_M_does 152 = .ok (.iload_n 3, 1) := by decide +kernel
theorem d_M_does_153 : decode b_M_does 153 = .ok (.iaload, 1) := by decide +kernel
theorem d_M_does_154 : decode b_M_does 154 = .ok (.bipush 15, 2) := by decide +kernel
theorem d_M_does_156 : decode b_M_does 156 = .ok (.iand, 1) := by decide +kernel
theorem d_M_does_157 : decode b_M_does 157 = .ok (.iadd, 1) := by decide +kernel
theorem d_M_does_158 : decode b_M_does 158 = .ok (.aload_n 0, 1) := by decide +kernel
theorem d_M_does_159 : decode b_M_does 159 = .ok (.getfield 32, 3) := by decide +kernel
theorem d_M_does_162 : decode b_M_does 162 = .ok (.bipush 16, 2) := by decide +kernel
theorem d_M_does_164 : decode b_M_does 164 = .ok (.iload_n 2, 1) := by decide +kernel
theorem d_M_does_165 : decode b_M_does 165 = .ok (.imul, 1) := by decide +kernel
theorem d_M_does_166 : decode b_M_does 166 = .ok (.aload_n 0, 1) := by decide +kernel
theorem d_M_does_167 : decode b_M_does 167 = .ok (.getfield 20, 3) := by decide +kernel
theorem d_M_does_170 : decode b_M_does 170 = .ok (.iload_n 3, 1) := by decide +kernel
theorem d_M_does_171 : decode b_M_does 171 = .ok (.iaload, 1) := by decide +kernel
theorem d_M_does_172 : decode b_M_does 172 = .ok (.bipush 15, 2) := by decide +kernel
theorem d_M_does_174 : decode b_M_does 174 = .ok (.iand, 1) := by decide +kernel
theorem d_M_does_175 : decode b_M_does 175 = .ok (.iadd, 1) := by decide +kernel
theorem d_M_does_176 : decode b_M_does 176 = .ok (.iaload, 1) := by decide +kernel
theorem d_M_does_177 : decode b_M_does 177 = .ok (.iload 4, 2) := by decide +kernel
theorem d_M_does_179 : decode b_M_does 179 = .ok (.iadd, 1) := by decide +kernel
theorem d_M_does_180 : decode b_M_does 180 = .ok (.iastore, 1) := by decide +kernel
theorem d_M_does_181 : decode b_M_does 181 = .ok (.iload_n 1, 1) := by decide +kernel
theorem d_M_does_182 : decode b_M_does 182 = .ok (.bipush 8, 2) := by decide +kernel
theorem d_M_does_184 : decode b_M_does 184 = .ok (.if_icmp .ne 28, 3) := by decide +kernel
theorem d_M_does_187 : decode b_M_does 187 = .ok (.aload_n 0, 1) := by decide +kernel
theorem d_M_does_188 : decode b_M_does 188 = .ok (.iload_n 2, 1) := by decide +kernel
theorem d_M_does_189 : decode b_M_does 189 = .ok (.aload_n 0, 1) := by decide +kernel
theorem d_M_does_190 : decode b_M_does 190 = .ok (.getfield 32, 3) := by decide +kernel
theorem d_M_does_193 : decode b_M_does 193 = .ok (.bipush 16, 2) := by decide +kernel
theorem d_M_does_195 : decode b_M_does 195 = .ok (.iload 4, 2) := by decide +kernel
theorem d_M_does_197 : decode b_M_does 197 = .ok (.imul, 1) := by decide +kernel
theorem d_M_does_198 : decode b_M_does 198 = .ok (.aload_n 0, 1) := by decide +kernel
theorem d_M_does_199 : decode b_M_does 199 = .ok (.getfield 20, 3) := by decide +kernel
theorem d_M_does_202 : decode b_M_does 202 = .ok (.iload_n 3, 1) := by decide +kernel
theorem d_M_does_203 : decode b_M_does 203 = .ok (.iaload, 1) := by decide +kernel
theorem d_M_does_204 : decode b_M_does 204 = .ok (.bipush 15, 2) := by decide +kernel
theorem d_M_does_206 : decode b_M_does 206 = .ok (.iand, 1) := by decide +kernel
theorem d_M_does_207 : decode b_M_does 207 = .ok (.iadd, 1) := by decide +kernel
theorem d_M_does_208 : decode b_M_does 208 = .ok (.iaload, 1) := by decide +kernel
theorem d_M_does_209 : decode b_M_does 209 = .ok (.invokevirtual 87, 3) := by decide +kernel
theorem d_M_does_212 : decode b_M_does 212 = .ok (.return_, 1) := by decide +kernel
theorem d_M_matches_0 : decode b_M_matches 0 = .ok (.aload_n 0, 1) := by decide +kernel
theorem d_M_matches_1 : decode b_M_matches 1 = .ok (.iconst 0, 1) := by decide +kernel
theorem d_M_matches_2 : decode b_M_matches 2 = .ok (.putfield 7, 3) := by decide +kernel
theorem d_M_matches_5 : decode b_M_matches 5 = .ok (.iload_n 1, 1) := by decide +kernel
theorem d_M_matches_6 : decode b_M_matches 6 = .ok (.aload_n 0, 1) := by decide +kernel
theorem d_M_matches_7 : decode b_M_matches 7 = .ok (.getfield 35, 3) := by decide +kernel
theorem d_M_matches_10 : decode b_M_matches 10 = .ok (.invokestatic 91, 3) := by decide +kernel
theorem d_M_matches_13 : decode b_M_matches 13 = .ok (.ifCond .eq 5, 3) := by decide +kernel
theorem d_M_matches_16 : decode b_M_matches 16 = .ok (.iconst (-1), 1) := by decide +kernel
theorem d_M_matches_17 : decode b_M_matches 17 = .ok (.ireturn, 1) := by decide +kernel
theorem d_M_matches_18 : decode b_M_matches 18 = .ok (.aload_n 0, 1) := by decide +kernel
theorem d_M_matches_19 : decode b_M_matches 19 = .ok (.iload_n 1, 1) := by decide +kernel
theorem d_M_matches_20 : decode b_M_matches 20 = .ok (.invokevirtual 106, 3) := by decide +kernel
theorem d_M_matches_23 : decode b_M_matches 23 = .ok (.istore_n 2, 1) := by decide +kernel
theorem d_M_matches_24 : decode b_M_matches 24 = .ok (.iload_n 2, 1) := by decide +kernel
theorem d_M_matches_25 : decode b_M_matches 25 = .ok (.ifCond .ge 7, 3) := by decide +kernel
theorem d_M_matches_28 : decode b_M_matches 28 = .ok (.iconst (-1), 1) := by decide +kernel
theorem d_M_matches_29 : decode b_M_matches 29 = .ok (.goto 11, 3) := by decide +kernel
theorem d_M_matches_32 : decode b_M_matches 32 = .ok (.aload_n 0, 1) := by decide +kernel
theorem d_M_matches_33 : decode b_M_matches 33 = .ok (.getfield 56, 3) := by decide +kernel
theorem d_M_matches_36 : decode b_M_matches 36 = .ok (.iload_n 2, 1) := by decide +kernel
theorem d_M_matches_37 : decode b_M_matches 37 = .ok (.iconst 5, 1) := by decide +kernel
theorem d_M_matches_38 : decode b_M_matches 38 = .ok (.iadd, 1) := by decide +kernel
theorem d_M_matches_39 : decode b_M_matches 39 = .ok (.iaload, 1) := by decide +kernel
theorem d_M_matches_40 : decode b_M_matches 40 = .ok (.ireturn, 1) := by decide +kernel
theorem d_M_port_0 : decode b_M_port 0 = .ok (.aload_n 0, 1) := by decide +kernel
theorem d_M_port_1 : decode b_M_port 1 = .ok (.iconst 0, 1) := by decide +kernel
theorem d_M_port_2 : decode b_M_port 2 = .ok (.putfield 7, 3) := by decide +kernel
theorem d_M_port_5 : decode b_M_port 5 = .ok (.aload_n 0, 1) := by decide +kernel
theorem d_M_port_6 : decode b_M_port 6 = .ok (.getfield 65, 3) := by decide +kernel
theorem d_M_port_9 : decode b_M_port 9 = .ok (.ireturn, 1) := by decide +kernel
theorem d_M_isDropped_0 : decode b_M_isDropped 0 = .ok (.aload_n 0, 1) := by decide +kernel
theorem d_M_isDropped_1 : decode b_M_isDropped 1 = .ok (.iconst 0, 1) := by decide +kernel
theorem d_M_isDropped_2 : decode b_M_isDropped 2 = .ok (.putfield 7, 3) := by decide +kernel
theorem d_M_isDropped_5 : decode b_M_isDropped 5 = .ok (.aload_n 0, 1) := by decide +kernel
theorem d_M_isDropped_6 : decode b_M_isDropped 6 = .ok (.getfield 68, 3) := by decide +kernel
theorem d_M_isDropped_9 : decode b_M_isDropped 9 = .ok (.ireturn, 1) := by decide +kernel
theorem d_M_word_0 : decode b_M_word 0 = .ok (.aload_n 0, 1) := by decide +kernel
theorem d_M_word_1 : decode b_M_word 1 = .ok (.iconst 0, 1) := by decide +kernel
theorem d_M_word_2 : decode b_M_word 2 = .ok (.putfield 7, 3) := by decide +kernel
theorem d_M_word_5 : decode b_M_word 5 = .ok (.iload_n 1, 1) := by decide +kernel
theorem d_M_word_6 : decode b_M_word 6 = .ok (.iconst 4, 1) := by decide +kernel
theorem d_M_word_7 : decode b_M_word 7 = .ok (.invokestatic 91, 3) := by decide +kernel
theorem d_M_word_10 : decode b_M_word 10 = .ok (.ifCond .ne 12, 3) := by decide +kernel
theorem d_M_word_13 : decode b_M_word 13 = .ok (.iload_n 2, 1) := by decide +kernel
theorem d_M_word_14 : decode b_M_word 14 = .ok (.bipush 16, 2) := by decide +kernel
theorem d_M_word_16 : decode b_M_word 16 = .ok (.invokestatic 91, 3) := by decide +kernel
theorem d_M_word_19 : decode b_M_word 19 = .ok (.ifCond .eq 7, 3) := by decide +kernel
theorem d_M_word_22 : decode b_M_word 22 = .ok (.iconst 0, 1) := by decide +kernel
theorem d_M_word_23 : decode b_M_word 23 = .ok (.goto 14, 3) := by decide +kernel
theorem d_M_word_26 : decode b_M_word 26 = .ok (.aload_n 0, 1) := by decide +kernel
theorem d_M_word_27 : decode b_M_word 27 = .ok (.getfield 32, 3) := by decide +kernel
theorem d_M_word_30 : decode b_M_word 30 = .ok (.bipush 16, 2) := by decide +kernel
theorem d_M_word_32 : decode b_M_word 32 = .ok (.iload_n 1, 1) := by decide +kernel
theorem d_M_word_33 : decode b_M_word 33 = .ok (.imul, 1) := by decide +kernel
theorem d_M_word_34 : decode b_M_word 34 = .ok (.iload_n 2, 1) := by decide +kernel
theorem d_M_word_35 : decode b_M_word 35 = .ok (.iadd, 1) := by decide +kernel
theorem d_M_word_36 : decode b_M_word 36 = .ok (.iaload, 1) := by decide +kernel
theorem d_M_word_37 : decode b_M_word 37 = .ok (.ireturn, 1) := by decide +kernel
theorem d_M_entries_0 : decode b_M_entries 0 = .ok (.aload_n 0, 1) := by decide +kernel
theorem d_M_entries_1 : decode b_M_entries 1 = .ok (.iconst 0, 1) := by decide +kernel
theorem d_M_entries_2 : decode b_M_entries 2 = .ok (.putfield 7, 3) := by decide +kernel
theorem d_M_entries_5 : decode b_M_entries 5 = .ok (.iload_n 1, 1) := by decide +kernel
theorem d_M_entries_6 : decode b_M_entries 6 = .ok (.aload_n 0, 1) := by decide +kernel
theorem d_M_entries_7 : decode b_M_entries 7 = .ok (.getfield 35, 3) := by decide +kernel
theorem d_M_entries_10 : decode b_M_entries 10 = .ok (.invokestatic 91, 3) := by decide +kernel
theorem d_M_entries_13 : decode b_M_entries 13 = .ok (.ifCond .eq 7, 3) := by decide +kernel
theorem d_M_entries_16 : decode b_M_entries 16 = .ok (.iconst (-1), 1) := by decide +kernel
theorem d_M_entries_17 : decode b_M_entries 17 = .ok (.goto 9, 3) := by decide +kernel
theorem d_M_entries_20 : decode b_M_entries 20 = .ok (.aload_n 0, 1) := by decide +kernel
theorem d_M_entries_21 : decode b_M_entries 21 = .ok (.getfield 53, 3) := by decide +kernel
theorem d_M_entries_24 : decode b_M_entries 24 = .ok (.iload_n 1, 1) := by decide +kernel
theorem d_M_entries_25 : decode b_M_entries 25 = .ok (.iaload, 1) := by decide +kernel
theorem d_M_entries_26 : decode b_M_entries 26 = .ok (.ireturn, 1) := by decide +kernel
