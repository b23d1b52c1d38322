/-! Decoded instructions, by program (wip/gen/names.py). -/
theorem d_L_field_0 : decode b_L_field 0 = .ok (.aload_n 2, 1) := by decide +kernel
theorem d_L_field_1 : decode b_L_field 1 = .ok (.iconst 0, 1) := by decide +kernel
theorem d_L_field_2 : decode b_L_field 2 = .ok (.aload_n 0, 1) := by decide +kernel
theorem d_L_field_3 : decode b_L_field 3 = .ok (.iload_n 1, 1) := by decide +kernel
theorem d_L_field_4 : decode b_L_field 4 = .ok (.invokevirtual 7, 3) := by decide +kernel
theorem d_L_field_7 : decode b_L_field 7 = .ok (.i2l, 1) := by decide +kernel
theorem d_L_field_8 : decode b_L_field 8 = .ok (.lastore, 1) := by decide +kernel
theorem d_L_field_9 : decode b_L_field 9 = .ok (.goto 9, 3) := by decide +kernel
theorem d_L_field_12 : decode b_L_field 12 = .ok (.astore_n 3, 1) := by decide +kernel
theorem d_L_field_13 : decode b_L_field 13 = .ok (.iconst 1, 1) := by decide +kernel
theorem d_L_field_14 : decode b_L_field 14 = .ok (.ireturn, 1) := by decide +kernel
theorem d_L_field_15 : decode b_L_field 15 = .ok (.astore_n 3, 1) := by decide +kernel
theorem d_L_field_16 : decode b_L_field 16 = .ok (.iconst 2, 1) := by decide +kernel
theorem d_L_field_17 : decode b_L_field 17 = .ok (.ireturn, 1) := by decide +kernel
theorem d_L_field_18 : decode b_L_field 18 = .ok (.iconst 0, 1) := by decide +kernel
theorem d_L_field_19 : decode b_L_field 19 = .ok (.ireturn, 1) := by decide +kernel
theorem d_L_set_0 : decode b_L_set 0 = .ok (.aload_n 0, 1) := by decide +kernel
theorem d_L_set_1 : decode b_L_set 1 = .ok (.iload_n 1, 1) := by decide +kernel
theorem d_L_set_2 : decode b_L_set 2 = .ok (.iload_n 2, 1) := by decide +kernel
theorem d_L_set_3 : decode b_L_set 3 = .ok (.invokevirtual 17, 3) := by decide +kernel
theorem d_L_set_6 : decode b_L_set 6 = .ok (.goto 6, 3) := by decide +kernel
theorem d_L_set_9 : decode b_L_set 9 = .ok (.astore_n 3, 1) := by decide +kernel
theorem d_L_set_10 : decode b_L_set 10 = .ok (.iconst 1, 1) := by decide +kernel
theorem d_L_set_11 : decode b_L_set 11 = .ok (.ireturn, 1) := by decide +kernel
theorem d_L_set_12 : decode b_L_set 12 = .ok (.iconst 0, 1) := by decide +kernel
theorem d_L_set_13 : decode b_L_set 13 = .ok (.ireturn, 1) := by decide +kernel
theorem d_L_action_0 : decode b_L_action 0 = .ok (.aload_n 1, 1) := by decide +kernel
theorem d_L_action_1 : decode b_L_action 1 = .ok (.iconst 0, 1) := by decide +kernel
theorem d_L_action_2 : decode b_L_action 2 = .ok (.aload_n 0, 1) := by decide +kernel
theorem d_L_action_3 : decode b_L_action 3 = .ok (.invokevirtual 23, 3) := by decide +kernel
theorem d_L_action_6 : decode b_L_action 6 = .ok (.i2l, 1) := by decide +kernel
theorem d_L_action_7 : decode b_L_action 7 = .ok (.lastore, 1) := by decide +kernel
theorem d_L_action_8 : decode b_L_action 8 = .ok (.goto 6, 3) := by decide +kernel
theorem d_L_action_11 : decode b_L_action 11 = .ok (.astore_n 2, 1) := by decide +kernel
theorem d_L_action_12 : decode b_L_action 12 = .ok (.iconst 1, 1) := by decide +kernel
theorem d_L_action_13 : decode b_L_action 13 = .ok (.ireturn, 1) := by decide +kernel
theorem d_L_action_14 : decode b_L_action 14 = .ok (.iconst 0, 1) := by decide +kernel
theorem d_L_action_15 : decode b_L_action 15 = .ok (.ireturn, 1) := by decide +kernel
theorem d_L_doing_0 : decode b_L_doing 0 = .ok (.aload_n 0, 1) := by decide +kernel
theorem d_L_doing_1 : decode b_L_doing 1 = .ok (.iload_n 1, 1) := by decide +kernel
theorem d_L_doing_2 : decode b_L_doing 2 = .ok (.iload_n 2, 1) := by decide +kernel
theorem d_L_doing_3 : decode b_L_doing 3 = .ok (.iload_n 3, 1) := by decide +kernel
theorem d_L_doing_4 : decode b_L_doing 4 = .ok (.iload 4, 2) := by decide +kernel
theorem d_L_doing_6 : decode b_L_doing 6 = .ok (.iload 5, 2) := by decide +kernel
theorem d_L_doing_8 : decode b_L_doing 8 = .ok (.invokevirtual 27, 3) := by decide +kernel
theorem d_L_doing_11 : decode b_L_doing 11 = .ok (.goto 15, 3) := by decide +kernel
theorem d_L_doing_14 : decode b_L_doing 14 = .ok (.astore 6, 2) := by decide +kernel
theorem d_L_doing_16 : decode b_L_doing 16 = .ok (.iconst 1, 1) := by decide +kernel
theorem d_L_doing_17 : decode b_L_doing 17 = .ok (.ireturn, 1) := by decide +kernel
theorem d_L_doing_18 : decode b_L_doing 18 = .ok (.astore 6, 2) := by decide +kernel
theorem d_L_doing_20 : decode b_L_doing 20 = .ok (.iconst 2, 1) := by decide +kernel
theorem d_L_doing_21 : decode b_L_doing 21 = .ok (.ireturn, 1) := by decide +kernel
theorem d_L_doing_22 : decode b_L_doing 22 = .ok (.astore 6, 2) := by decide +kernel
theorem d_L_doing_24 : decode b_L_doing 24 = .ok (.iconst 3, 1) := by decide +kernel
theorem d_L_doing_25 : decode b_L_doing 25 = .ok (.ireturn, 1) := by decide +kernel
theorem d_L_doing_26 : decode b_L_doing 26 = .ok (.iconst 0, 1) := by decide +kernel
theorem d_L_doing_27 : decode b_L_doing 27 = .ok (.ireturn, 1) := by decide +kernel
theorem d_L_table_0 : decode b_L_table 0 = .ok (.aload 6, 2) := by decide +kernel
theorem d_L_table_2 : decode b_L_table 2 = .ok (.iconst 0, 1) := by decide +kernel
theorem d_L_table_3 : decode b_L_table 3 = .ok (.aload_n 0, 1) := by decide +kernel
theorem d_L_table_4 : decode b_L_table 4 = .ok (.iload_n 1, 1) := by decide +kernel
theorem d_L_table_5 : decode b_L_table 5 = .ok (.iload_n 2, 1) := by decide +kernel
theorem d_L_table_6 : decode b_L_table 6 = .ok (.iload_n 3, 1) := by decide +kernel
theorem d_L_table_7 : decode b_L_table 7 = .ok (.iload 4, 2) := by decide +kernel
theorem d_L_table_9 : decode b_L_table 9 = .ok (.iload 5, 2) := by decide +kernel
theorem d_L_table_11 : decode b_L_table 11 = .ok (.invokevirtual 31, 3) := by decide +kernel
theorem d_L_table_14 : decode b_L_table 14 = .ok (.i2l, 1) := by decide +kernel
theorem d_L_table_15 : decode b_L_table 15 = .ok (.lastore, 1) := by decide +kernel
theorem d_L_table_16 : decode b_L_table 16 = .ok (.goto 15, 3) := by decide +kernel
theorem d_L_table_19 : decode b_L_table 19 = .ok (.astore 7, 2) := by decide +kernel
theorem d_L_table_21 : decode b_L_table 21 = .ok (.iconst 1, 1) := by decide +kernel
theorem d_L_table_22 : decode b_L_table 22 = .ok (.ireturn, 1) := by decide +kernel
theorem d_L_table_23 : decode b_L_table 23 = .ok (.astore 7, 2) := by decide +kernel
theorem d_L_table_25 : decode b_L_table 25 = .ok (.iconst 2, 1) := by decide +kernel
theorem d_L_table_26 : decode b_L_table 26 = .ok (.ireturn, 1) := by decide +kernel
theorem d_L_table_27 : decode b_L_table 27 = .ok (.astore 7, 2) := by decide +kernel
theorem d_L_table_29 : decode b_L_table 29 = .ok (.iconst 3, 1) := by decide +kernel
theorem d_L_table_30 : decode b_L_table 30 = .ok (.ireturn, 1) := by decide +kernel
theorem d_L_table_31 : decode b_L_table 31 = .ok (.iconst 0, 1) := by decide +kernel
theorem d_L_table_32 : decode b_L_table 32 = .ok (.ireturn, 1) := by decide +kernel
theorem d_L_insert_0 : decode b_L_insert 0 = .ok (.aload 6, 2) := by decide +kernel
theorem d_L_insert_2 : decode b_L_insert 2 = .ok (.iconst 0, 1) := by decide +kernel
theorem d_L_insert_3 : decode b_L_insert 3 = .ok (.aload_n 0, 1) := by decide +kernel
theorem d_L_insert_4 : decode b_L_insert 4 = .ok (.iload_n 1, 1) := by decide +kernel
theorem d_L_insert_5 : decode b_L_insert 5 = .ok (.iload_n 2, 1) := by decide +kernel
theorem d_L_insert_6 : decode b_L_insert 6 = .ok (.iload_n 3, 1) := by decide +kernel
theorem d_L_insert_7 : decode b_L_insert 7 = .ok (.iload 4, 2) := by decide +kernel
theorem d_L_insert_9 : decode b_L_insert 9 = .ok (.iload 5, 2) := by decide +kernel
theorem d_L_insert_11 : decode b_L_insert 11 = .ok (.invokevirtual 35, 3) := by decide +kernel
theorem d_L_insert_14 : decode b_L_insert 14 = .ok (.ifCond .eq 7, 3) := by decide +kernel
theorem d_L_insert_17 : decode b_L_insert 17 = .ok (.lconst 1, 1) := by decide +kernel
theorem d_L_insert_18 : decode b_L_insert 18 = .ok (.goto 4, 3) := by decide +kernel
theorem d_L_insert_21 : decode b_L_insert 21 = .ok (.lconst 0, 1) := by decide +kernel
theorem d_L_insert_22 : decode b_L_insert 22 = .ok (.lastore, 1) := by decide +kernel
theorem d_L_insert_23 : decode b_L_insert 23 = .ok (.goto 7, 3) := by decide +kernel
theorem d_L_insert_26 : decode b_L_insert 26 = .ok (.astore 7, 2) := by decide +kernel
theorem d_L_insert_28 : decode b_L_insert 28 = .ok (.iconst 1, 1) := by decide +kernel
theorem d_L_insert_29 : decode b_L_insert 29 = .ok (.ireturn, 1) := by decide +kernel
theorem d_L_insert_30 : decode b_L_insert 30 = .ok (.iconst 0, 1) := by decide +kernel
theorem d_L_insert_31 : decode b_L_insert 31 = .ok (.ireturn, 1) := by decide +kernel
theorem d_L_remove_0 : decode b_L_remove 0 = .ok (.aload_n 2, 1) := by decide +kernel
theorem d_L_remove_1 : decode b_L_remove 1 = .ok (.iconst 0, 1) := by decide +kernel
theorem d_L_remove_2 : decode b_L_remove 2 = .ok (.aload_n 0, 1) := by decide +kernel
theorem d_L_remove_3 : decode b_L_remove 3 = .ok (.iload_n 1, 1) := by decide +kernel
theorem d_L_remove_4 : decode b_L_remove 4 = .ok (.invokevirtual 39, 3) := by decide +kernel
theorem d_L_remove_7 : decode b_L_remove 7 = .ok (.ifCond .eq 7, 3) := by decide +kernel
theorem d_L_remove_10 : decode b_L_remove 10 = .ok (.lconst 1, 1) := by decide +kernel
theorem d_L_remove_11 : decode b_L_remove 11 = .ok (.goto 4, 3) := by decide +kernel
theorem d_L_remove_14 : decode b_L_remove 14 = .ok (.lconst 0, 1) := by decide +kernel
theorem d_L_remove_15 : decode b_L_remove 15 = .ok (.lastore, 1) := by decide +kernel
theorem d_L_remove_16 : decode b_L_remove 16 = .ok (.goto 6, 3) := by decide +kernel
theorem d_L_remove_19 : decode b_L_remove 19 = .ok (.astore_n 3, 1) := by decide +kernel
theorem d_L_remove_20 : decode b_L_remove 20 = .ok (.iconst 1, 1) := by decide +kernel
theorem d_L_remove_21 : decode b_L_remove 21 = .ok (.ireturn, 1) := by decide +kernel
theorem d_L_remove_22 : decode b_L_remove 22 = .ok (.iconst 0, 1) := by decide +kernel
theorem d_L_remove_23 : decode b_L_remove 23 = .ok (.ireturn, 1) := by decide +kernel
theorem d_L_act_0 : decode b_L_act 0 = .ok (.aload_n 2, 1) := by decide +kernel
theorem d_L_act_1 : decode b_L_act 1 = .ok (.iconst 0, 1) := by decide +kernel
theorem d_L_act_2 : decode b_L_act 2 = .ok (.aload_n 0, 1) := by decide +kernel
theorem d_L_act_3 : decode b_L_act 3 = .ok (.iload_n 1, 1) := by decide +kernel
theorem d_L_act_4 : decode b_L_act 4 = .ok (.invokevirtual 43, 3) := by decide +kernel
theorem d_L_act_7 : decode b_L_act 7 = .ok (.ifCond .eq 7, 3) := by decide +kernel
theorem d_L_act_10 : decode b_L_act 10 = .ok (.lconst 1, 1) := by decide +kernel
theorem d_L_act_11 : decode b_L_act 11 = .ok (.goto 4, 3) := by decide +kernel
theorem d_L_act_14 : decode b_L_act 14 = .ok (.lconst 0, 1) := by decide +kernel
theorem d_L_act_15 : decode b_L_act 15 = .ok (.lastore, 1) := by decide +kernel
theorem d_L_act_16 : decode b_L_act 16 = .ok (.goto 6, 3) := by decide +kernel
theorem d_L_act_19 : decode b_L_act 19 = .ok (.astore_n 3, 1) := by decide +kernel
theorem d_L_act_20 : decode b_L_act 20 = .ok (.iconst 1, 1) := by decide +kernel
theorem d_L_act_21 : decode b_L_act 21 = .ok (.ireturn, 1) := by decide +kernel
theorem d_L_act_22 : decode b_L_act 22 = .ok (.iconst 0, 1) := by decide +kernel
theorem d_L_act_23 : decode b_L_act 23 = .ok (.ireturn, 1) := by decide +kernel
theorem d_L_law_0 : decode b_L_law 0 = .ok (.new 8, 3) := by decide +kernel
theorem d_L_law_3 : decode b_L_law 3 = .ok (.dup, 1) := by decide +kernel
theorem d_L_law_4 : decode b_L_law 4 = .ok (.invokespecial 46, 3) := by decide +kernel
theorem d_L_law_7 : decode b_L_law 7 = .ok (.astore_n 1, 1) := by decide +kernel
theorem d_L_law_8 : decode b_L_law 8 = .ok (.new 47, 3) := by decide +kernel
theorem d_L_law_11 : decode b_L_law 11 = .ok (.dup, 1) := by decide +kernel
theorem d_L_law_12 : decode b_L_law 12 = .ok (.invokespecial 49, 3) := by decide +kernel
theorem d_L_law_15 : decode b_L_law 15 = .ok (.astore_n 2, 1) := by decide +kernel
theorem d_L_law_16 : decode b_L_law 16 = .ok (.iconst 1, 1) := by decide +kernel
theorem d_L_law_17 : decode b_L_law 17 = .ok (.newarray .long, 2) := by decide +kernel
theorem d_L_law_19 : decode b_L_law 19 = .ok (.astore_n 3, 1) := by decide +kernel
theorem d_L_law_20 : decode b_L_law 20 = .ok (.iconst 0, 1) := by decide +kernel
theorem d_L_law_21 : decode b_L_law 21 = .ok (.istore 4, 2) := by decide +kernel
theorem d_L_law_23 : decode b_L_law 23 = .ok (.iload 4, 2) := by decide +kernel
theorem d_L_law_25 : decode b_L_law 25 = .ok (.aload_n 0, 1) := by decide +kernel
theorem d_L_law_26 : decode b_L_law 26 = .ok (.arraylength, 1) := by decide +kernel
theorem d_L_law_27 : decode b_L_law 27 = .ok (.bipush 6, 2) := by decide +kernel
theorem d_L_law_29 : decode b_L_law 29 = .ok (.isub, 1) := by decide +kernel
theorem d_L_law_30 : decode b_L_law 30 = .ok (.if_icmp .gt 877, 3) := by decide +kernel
theorem d_L_law_33 : decode b_L_law 33 = .ok (.aload_n 0, 1) := by decide +kernel
theorem d_L_law_34 : decode b_L_law 34 = .ok (.iload 4, 2) := by decide +kernel
theorem d_L_law_36 : decode b_L_law 36 = .ok (.iaload, 1) := by decide +kernel
theorem d_L_law_37 : decode b_L_law 37 = .ok (.bipush 15, 2) := by decide +kernel
theorem d_L_law_39 : decode b_L_law 39 = .ok (.iand, 1) := by decide +kernel
theorem d_L_law_40 : decode b_L_law 40 = .ok (.tableswitch 861 0 15 #[80, 91, 147, 195, 220, 264, 348, 452, 511, 622, 685, 748, 773, 786, 799, 836], 80) := by decide +kernel
theorem d_L_law_120 : decode b_L_law 120 = .ok (.aload_n 1, 1) := by decide +kernel
theorem d_L_law_121 : decode b_L_law 121 = .ok (.invokevirtual 50, 3) := by decide +kernel
theorem d_L_law_124 : decode b_L_law 124 = .ok (.aload_n 2, 1) := by decide +kernel
theorem d_L_law_125 : decode b_L_law 125 = .ok (.invokevirtual 53, 3) := by decide +kernel
theorem d_L_law_128 : decode b_L_law 128 = .ok (.goto 773, 3) := by decide +kernel
theorem d_L_law_131 : decode b_L_law 131 = .ok (.aload_n 1, 1) := by decide +kernel
theorem d_L_law_132 : decode b_L_law 132 = .ok (.aload_n 0, 1) := by decide +kernel
theorem d_L_law_133 : decode b_L_law 133 = .ok (.iload 4, 2) := by decide +kernel
theorem d_L_law_135 : decode b_L_law 135 = .ok (.iconst 1, 1) := by decide +kernel
theorem d_L_law_136 : decode b_L_law 136 = .ok (.iadd, 1) := by decide +kernel
theorem d_L_law_137 : decode b_L_law 137 = .ok (.iaload, 1) := by decide +kernel
theorem d_L_law_138 : decode b_L_law 138 = .ok (.aload_n 3, 1) := by decide +kernel
theorem d_L_law_139 : decode b_L_law 139 = .ok (.invokestatic 54, 3) := by decide +kernel
theorem d_L_law_142 : decode b_L_law 142 = .ok (.istore 5, 2) := by decide +kernel
theorem d_L_law_144 : decode b_L_law 144 = .ok (.aload_n 2, 1) := by decide +kernel
theorem d_L_law_145 : decode b_L_law 145 = .ok (.aload_n 0, 1) := by decide +kernel
theorem d_L_law_146 : decode b_L_law 146 = .ok (.iload 4, 2) := by decide +kernel
theorem d_L_law_148 : decode b_L_law 148 = .ok (.iconst 1, 1) := by decide +kernel
theorem d_L_law_149 : decode b_L_law 149 = .ok (.iadd, 1) := by decide +kernel
theorem d_L_law_150 : decode b_L_law 150 = .ok (.iaload, 1) := by decide +kernel
theorem d_L_law_151 : decode b_L_law 151 = .ok (.invokevirtual 59, 3) := by decide +kernel
theorem d_L_law_154 : decode b_L_law 154 = .ok (.istore 6, 2) := by decide +kernel
theorem d_L_law_156 : decode b_L_law 156 = .ok (.aload_n 2, 1) := by decide +kernel
theorem d_L_law_157 : decode b_L_law 157 = .ok (.invokevirtual 60, 3) := by decide +kernel
theorem d_L_law_160 : decode b_L_law 160 = .ok (.iload 5, 2) := by decide +kernel
theorem d_L_law_162 : decode b_L_law 162 = .ok (.if_icmp .eq 5, 3) := by decide +kernel
theorem d_L_law_165 : decode b_L_law 165 = .ok (.iconst 0, 1) := by decide +kernel
theorem d_L_law_166 : decode b_L_law 166 = .ok (.ireturn, 1) := by decide +kernel
theorem d_L_law_167 : decode b_L_law 167 = .ok (.iload 5, 2) := by decide +kernel
theorem d_L_law_169 : decode b_L_law 169 = .ok (.ifCond .ne 15, 3) := by decide +kernel
theorem d_L_law_172 : decode b_L_law 172 = .ok (.aload_n 3, 1) := by decide +kernel
theorem d_L_law_173 : decode b_L_law 173 = .ok (.iconst 0, 1) := by decide +kernel
theorem d_L_law_174 : decode b_L_law 174 = .ok (.laload, 1) := by decide +kernel
theorem d_L_law_175 : decode b_L_law 175 = .ok (.iload 6, 2) := by decide +kernel
theorem d_L_law_177 : decode b_L_law 177 = .ok (.i2l, 1) := by decide +kernel
theorem d_L_law_178 : decode b_L_law 178 = .ok (.lcmp, 1) := by decide +kernel
theorem d_L_law_179 : decode b_L_law 179 = .ok (.ifCond .eq 5, 3) := by decide +kernel
theorem d_L_law_182 : decode b_L_law 182 = .ok (.iconst 0, 1) := by decide +kernel
theorem d_L_law_183 : decode b_L_law 183 = .ok (.ireturn, 1) := by decide +kernel
theorem d_L_law_184 : decode b_L_law 184 = .ok (.goto 717, 3) := by decide +kernel
theorem d_L_law_187 : decode b_L_law 187 = .ok (.aload_n 1, 1) := by decide +kernel
theorem d_L_law_188 : decode b_L_law 188 = .ok (.aload_n 0, 1) := by decide +kernel
theorem d_L_law_189 : decode b_L_law 189 = .ok (.iload 4, 2) := by decide +kernel
theorem d_L_law_191 : decode b_L_law 191 = .ok (.iconst 1, 1) := by decide +kernel
theorem d_L_law_192 : decode b_L_law 192 = .ok (.iadd, 1) := by decide +kernel
theorem d_L_law_193 : decode b_L_law 193 = .ok (.iaload, 1) := by decide +kernel
theorem d_L_law_194 : decode b_L_law 194 = .ok (.aload_n 0, 1) := by decide +kernel
theorem d_L_law_195 : decode b_L_law 195 = .ok (.iload 4, 2) := by decide +kernel
theorem d_L_law_197 : decode b_L_law 197 = .ok (.iconst 2, 1) := by decide +kernel
theorem d_L_law_198 : decode b_L_law 198 = .ok (.iadd, 1) := by decide +kernel
theorem d_L_law_199 : decode b_L_law 199 = .ok (.iaload, 1) := by decide +kernel
theorem d_L_law_200 : decode b_L_law 200 = .ok (.invokestatic 63, 3) := by decide +kernel
theorem d_L_law_203 : decode b_L_law 203 = .ok (.istore 5, 2) := by decide +kernel
theorem d_L_law_205 : decode b_L_law 205 = .ok (.aload_n 2, 1) := by decide +kernel
theorem d_L_law_206 : decode b_L_law 206 = .ok (.aload_n 0, 1) := by decide +kernel
theorem d_L_law_207 : decode b_L_law 207 = .ok (.iload 4, 2) := by decide +kernel
theorem d_L_law_209 : decode b_L_law 209 = .ok (.iconst 1, 1) := by decide +kernel
theorem d_L_law_210 : decode b_L_law 210 = .ok (.iadd, 1) := by decide +kernel
theorem d_L_law_211 : decode b_L_law 211 = .ok (.iaload, 1) := by decide +kernel
theorem d_L_law_212 : decode b_L_law 212 = .ok (.aload_n 0, 1) := by decide +kernel
theorem d_L_law_213 : decode b_L_law 213 = .ok (.iload 4, 2) := by decide +kernel
theorem d_L_law_215 : decode b_L_law 215 = .ok (.iconst 2, 1) := by decide +kernel
theorem d_L_law_216 : decode b_L_law 216 = .ok (.iadd, 1) := by decide +kernel
theorem d_L_law_217 : decode b_L_law 217 = .ok (.iaload, 1) := by decide +kernel
theorem d_L_law_218 : decode b_L_law 218 = .ok (.invokevirtual 66, 3) := by decide +kernel
theorem d_L_law_221 : decode b_L_law 221 = .ok (.aload_n 2, 1) := by decide +kernel
theorem d_L_law_222 : decode b_L_law 222 = .ok (.invokevirtual 60, 3) := by decide +kernel
theorem d_L_law_225 : decode b_L_law 225 = .ok (.iload 5, 2) := by decide +kernel
theorem d_L_law_227 : decode b_L_law 227 = .ok (.if_icmp .eq 5, 3) := by decide +kernel
theorem d_L_law_230 : decode b_L_law 230 = .ok (.iconst 0, 1) := by decide +kernel
theorem d_L_law_231 : decode b_L_law 231 = .ok (.ireturn, 1) := by decide +kernel
theorem d_L_law_232 : decode b_L_law 232 = .ok (.goto 669, 3) := by decide +kernel
theorem d_L_law_235 : decode b_L_law 235 = .ok (.aload_n 1, 1) := by decide +kernel
theorem d_L_law_236 : decode b_L_law 236 = .ok (.aload_n 0, 1) := by decide +kernel
theorem d_L_law_237 : decode b_L_law 237 = .ok (.iload 4, 2) := by decide +kernel
theorem d_L_law_239 : decode b_L_law 239 = .ok (.iconst 1, 1) := by decide +kernel
theorem d_L_law_240 : decode b_L_law 240 = .ok (.iadd, 1) := by decide +kernel
theorem d_L_law_241 : decode b_L_law 241 = .ok (.iaload, 1) := by decide +kernel
theorem d_L_law_242 : decode b_L_law 242 = .ok (.invokevirtual 67, 3) := by decide +kernel
theorem d_L_law_245 : decode b_L_law 245 = .ok (.aload_n 2, 1) := by decide +kernel
theorem d_L_law_246 : decode b_L_law 246 = .ok (.aload_n 0, 1) := by decide +kernel
theorem d_L_law_247 : decode b_L_law 247 = .ok (.iload 4, 2) := by decide +kernel
theorem d_L_law_249 : decode b_L_law 249 = .ok (.iconst 1, 1) := by decide +kernel
theorem d_L_law_250 : decode b_L_law 250 = .ok (.iadd, 1) := by decide +kernel
theorem d_L_law_251 : decode b_L_law 251 = .ok (.iaload, 1) := by decide +kernel
theorem d_L_law_252 : decode b_L_law 252 = .ok (.invokevirtual 70, 3) := by decide +kernel
theorem d_L_law_255 : decode b_L_law 255 = .ok (.if_icmp .eq 646, 3) := by decide +kernel
theorem d_L_law_258 : decode b_L_law 258 = .ok (.iconst 0, 1) := by decide +kernel
theorem d_L_law_259 : decode b_L_law 259 = .ok (.ireturn, 1) := by decide +kernel
theorem d_L_law_260 : decode b_L_law 260 = .ok (.aload_n 1, 1) := by decide +kernel
theorem d_L_law_261 : decode b_L_law 261 = .ok (.aload_n 3, 1) := by decide +kernel
theorem d_L_law_262 : decode b_L_law 262 = .ok (.invokestatic 71, 3) := by decide +kernel
theorem d_L_law_265 : decode b_L_law 265 = .ok (.istore 5, 2) := by decide +kernel
theorem d_L_law_267 : decode b_L_law 267 = .ok (.aload_n 2, 1) := by decide +kernel
theorem d_L_law_268 : decode b_L_law 268 = .ok (.invokevirtual 74, 3) := by decide +kernel
theorem d_L_law_271 : decode b_L_law 271 = .ok (.istore 6, 2) := by decide +kernel
theorem d_L_law_273 : decode b_L_law 273 = .ok (.aload_n 2, 1) := by decide +kernel
theorem d_L_law_274 : decode b_L_law 274 = .ok (.invokevirtual 60, 3) := by decide +kernel
theorem d_L_law_277 : decode b_L_law 277 = .ok (.iload 5, 2) := by decide +kernel
theorem d_L_law_279 : decode b_L_law 279 = .ok (.if_icmp .eq 5, 3) := by decide +kernel
theorem d_L_law_282 : decode b_L_law 282 = .ok (.iconst 0, 1) := by decide +kernel
theorem d_L_law_283 : decode b_L_law 283 = .ok (.ireturn, 1) := by decide +kernel
theorem d_L_law_284 : decode b_L_law 284 = .ok (.iload 5, 2) := by decide +kernel
theorem d_L_law_286 : decode b_L_law 286 = .ok (.ifCond .ne 15, 3) := by decide +kernel
theorem d_L_law_289 : decode b_L_law 289 = .ok (.aload_n 3, 1) := by decide +kernel
theorem d_L_law_290 : decode b_L_law 290 = .ok (.iconst 0, 1) := by decide +kernel
theorem d_L_law_291 : decode b_L_law 291 = .ok (.laload, 1) := by decide +kernel
theorem d_L_law_292 : decode b_L_law 292 = .ok (.iload 6, 2) := by decide +kernel
theorem d_L_law_294 : decode b_L_law 294 = .ok (.i2l, 1) := by decide +kernel
theorem d_L_law_295 : decode b_L_law 295 = .ok (.lcmp, 1) := by decide +kernel
theorem d_L_law_296 : decode b_L_law 296 = .ok (.ifCond .eq 5, 3) := by decide +kernel
theorem d_L_law_299 : decode b_L_law 299 = .ok (.iconst 0, 1) := by decide +kernel
theorem d_L_law_300 : decode b_L_law 300 = .ok (.ireturn, 1) := by decide +kernel
theorem d_L_law_301 : decode b_L_law 301 = .ok (.goto 600, 3) := by decide +kernel
theorem d_L_law_304 : decode b_L_law 304 = .ok (.aload_n 1, 1) := by decide +kernel
theorem d_L_law_305 : decode b_L_law 305 = .ok (.aload_n 0, 1) := by decide +kernel
theorem d_L_law_306 : decode b_L_law 306 = .ok (.iload 4, 2) := by decide +kernel
theorem d_L_law_308 : decode b_L_law 308 = .ok (.iconst 1, 1) := by decide +kernel
theorem d_L_law_309 : decode b_L_law 309 = .ok (.iadd, 1) := by decide +kernel
theorem d_L_law_310 : decode b_L_law 310 = .ok (.iaload, 1) := by decide +kernel
theorem d_L_law_311 : decode b_L_law 311 = .ok (.aload_n 0, 1) := by decide +kernel
theorem d_L_law_312 : decode b_L_law 312 = .ok (.iload 4, 2) := by decide +kernel
theorem d_L_law_314 : decode b_L_law 314 = .ok (.iconst 2, 1) := by decide +kernel
theorem d_L_law_315 : decode b_L_law 315 = .ok (.iadd, 1) := by decide +kernel
theorem d_L_law_316 : decode b_L_law 316 = .ok (.iaload, 1) := by decide +kernel
theorem d_L_law_317 : decode b_L_law 317 = .ok (.aload_n 0, 1) := by decide +kernel
theorem d_L_law_318 : decode b_L_law 318 = .ok (.iload 4, 2) := by decide +kernel
theorem d_L_law_320 : decode b_L_law 320 = .ok (.iconst 3, 1) := by decide +kernel
theorem d_L_law_321 : decode b_L_law 321 = .ok (.iadd, 1) := by decide +kernel
theorem d_L_law_322 : decode b_L_law 322 = .ok (.iaload, 1) := by decide +kernel
theorem d_L_law_323 : decode b_L_law 323 = .ok (.aload_n 0, 1) := by decide +kernel
theorem d_L_law_324 : decode b_L_law 324 = .ok (.iload 4, 2) := by decide +kernel
theorem d_L_law_326 : decode b_L_law 326 = .ok (.iconst 4, 1) := by decide +kernel
theorem d_L_law_327 : decode b_L_law 327 = .ok (.iadd, 1) := by decide +kernel
theorem d_L_law_328 : decode b_L_law 328 = .ok (.iaload, 1) := by decide +kernel
theorem d_L_law_329 : decode b_L_law 329 = .ok (.aload_n 0, 1) := by decide +kernel
theorem d_L_law_330 : decode b_L_law 330 = .ok (.iload 4, 2) := by decide +kernel
theorem d_L_law_332 : decode b_L_law 332 = .ok (.iconst 5, 1) := by decide +kernel
theorem d_L_law_333 : decode b_L_law 333 = .ok (.iadd, 1) := by decide +kernel
theorem d_L_law_334 : decode b_L_law 334 = .ok (.iaload, 1) := by decide +kernel
theorem d_L_law_335 : decode b_L_law 335 = .ok (.invokestatic 75, 3) := by decide +kernel
theorem d_L_law_338 : decode b_L_law 338 = .ok (.istore 5, 2) := by decide +kernel
theorem d_L_law_340 : decode b_L_law 340 = .ok (.aload_n 2, 1) := by decide +kernel
theorem d_L_law_341 : decode b_L_law 341 = .ok (.aload_n 0, 1) := by decide +kernel
theorem d_L_law_342 : decode b_L_law 342 = .ok (.iload 4, 2) := by decide +kernel
theorem d_L_law_344 : decode b_L_law 344 = .ok (.iconst 1, 1) := by decide +kernel
theorem d_L_law_345 : decode b_L_law 345 = .ok (.iadd, 1) := by decide +kernel
theorem d_L_law_346 : decode b_L_law 346 = .ok (.iaload, 1) := by decide +kernel
theorem d_L_law_347 : decode b_L_law 347 = .ok (.aload_n 0, 1) := by decide +kernel
theorem d_L_law_348 : decode b_L_law 348 = .ok (.iload 4, 2) := by decide +kernel
theorem d_L_law_350 : decode b_L_law 350 = .ok (.iconst 2, 1) := by decide +kernel
theorem d_L_law_351 : decode b_L_law 351 = .ok (.iadd, 1) := by decide +kernel
theorem d_L_law_352 : decode b_L_law 352 = .ok (.iaload, 1) := by decide +kernel
theorem d_L_law_353 : decode b_L_law 353 = .ok (.aload_n 0, 1) := by decide +kernel
theorem d_L_law_354 : decode b_L_law 354 = .ok (.iload 4, 2) := by decide +kernel
theorem d_L_law_356 : decode b_L_law 356 = .ok (.iconst 3, 1) := by decide +kernel
theorem d_L_law_357 : decode b_L_law 357 = .ok (.iadd, 1) := by decide +kernel
theorem d_L_law_358 : decode b_L_law 358 = .ok (.iaload, 1) := by decide +kernel
theorem d_L_law_359 : decode b_L_law 359 = .ok (.aload_n 0, 1) := by decide +kernel
theorem d_L_law_360 : decode b_L_law 360 = .ok (.iload 4, 2) := by decide +kernel
theorem d_L_law_362 : decode b_L_law 362 = .ok (.iconst 4, 1) := by decide +kernel
theorem d_L_law_363 : decode b_L_law 363 = .ok (.iadd, 1) := by decide +kernel
theorem d_L_law_364 : decode b_L_law 364 = .ok (.iaload, 1) := by decide +kernel
theorem d_L_law_365 : decode b_L_law 365 = .ok (.aload_n 0, 1) := by decide +kernel
theorem d_L_law_366 : decode b_L_law 366 = .ok (.iload 4, 2) := by decide +kernel
theorem d_L_law_368 : decode b_L_law 368 = .ok (.iconst 5, 1) := by decide +kernel
theorem d_L_law_369 : decode b_L_law 369 = .ok (.iadd, 1) := by decide +kernel
theorem d_L_law_370 : decode b_L_law 370 = .ok (.iaload, 1) := by decide +kernel
theorem d_L_law_371 : decode b_L_law 371 = .ok (.invokevirtual 78, 3) := by decide +kernel
theorem d_L_law_374 : decode b_L_law 374 = .ok (.aload_n 2, 1) := by decide +kernel
theorem d_L_law_375 : decode b_L_law 375 = .ok (.invokevirtual 60, 3) := by decide +kernel
theorem d_L_law_378 : decode b_L_law 378 = .ok (.iload 5, 2) := by decide +kernel
theorem d_L_law_380 : decode b_L_law 380 = .ok (.if_icmp .eq 5, 3) := by decide +kernel
theorem d_L_law_383 : decode b_L_law 383 = .ok (.iconst 0, 1) := by decide +kernel
theorem d_L_law_384 : decode b_L_law 384 = .ok (.ireturn, 1) := by decide +kernel
theorem d_L_law_385 : decode b_L_law 385 = .ok (.goto 516, 3) := by decide +kernel
theorem d_L_law_388 : decode b_L_law 388 = .ok (.aload_n 1, 1) := by decide +kernel
theorem d_L_law_389 : decode b_L_law 389 = .ok (.aload_n 0, 1) := by decide +kernel
theorem d_L_law_390 : decode b_L_law 390 = .ok (.iload 4, 2) := by decide +kernel
theorem d_L_law_392 : decode b_L_law 392 = .ok (.iconst 1, 1) := by decide +kernel
theorem d_L_law_393 : decode b_L_law 393 = .ok (.iadd, 1) := by decide +kernel
theorem d_L_law_394 : decode b_L_law 394 = .ok (.iaload, 1) := by decide +kernel
theorem d_L_law_395 : decode b_L_law 395 = .ok (.aload_n 0, 1) := by decide +kernel
theorem d_L_law_396 : decode b_L_law 396 = .ok (.iload 4, 2) := by decide +kernel
theorem d_L_law_398 : decode b_L_law 398 = .ok (.iconst 2, 1) := by decide +kernel
theorem d_L_law_399 : decode b_L_law 399 = .ok (.iadd, 1) := by decide +kernel
theorem d_L_law_400 : decode b_L_law 400 = .ok (.iaload, 1) := by decide +kernel
theorem d_L_law_401 : decode b_L_law 401 = .ok (.aload_n 0, 1) := by decide +kernel
theorem d_L_law_402 : decode b_L_law 402 = .ok (.iload 4, 2) := by decide +kernel
theorem d_L_law_404 : decode b_L_law 404 = .ok (.iconst 3, 1) := by decide +kernel
theorem d_L_law_405 : decode b_L_law 405 = .ok (.iadd, 1) := by decide +kernel
theorem d_L_law_406 : decode b_L_law 406 = .ok (.iaload, 1) := by decide +kernel
theorem d_L_law_407 : decode b_L_law 407 = .ok (.aload_n 0, 1) := by decide +kernel
theorem d_L_law_408 : decode b_L_law 408 = .ok (.iload 4, 2) := by decide +kernel
theorem d_L_law_410 : decode b_L_law 410 = .ok (.iconst 4, 1) := by decide +kernel
theorem d_L_law_411 : decode b_L_law 411 = .ok (.iadd, 1) := by decide +kernel
theorem d_L_law_412 : decode b_L_law 412 = .ok (.iaload, 1) := by decide +kernel
theorem d_L_law_413 : decode b_L_law 413 = .ok (.aload_n 0, 1) := by decide +kernel
theorem d_L_law_414 : decode b_L_law 414 = .ok (.iload 4, 2) := by decide +kernel
theorem d_L_law_416 : decode b_L_law 416 = .ok (.iconst 5, 1) := by decide +kernel
theorem d_L_law_417 : decode b_L_law 417 = .ok (.iadd, 1) := by decide +kernel
theorem d_L_law_418 : decode b_L_law 418 = .ok (.iaload, 1) := by decide +kernel
theorem d_L_law_419 : decode b_L_law 419 = .ok (.aload_n 3, 1) := by decide +kernel
theorem d_L_law_420 : decode b_L_law 420 = .ok (.invokestatic 79, 3) := by decide +kernel
theorem d_L_law_423 : decode b_L_law 423 = .ok (.istore 5, 2) := by decide +kernel
theorem d_L_law_425 : decode b_L_law 425 = .ok (.aload_n 2, 1) := by decide +kernel
theorem d_L_law_426 : decode b_L_law 426 = .ok (.aload_n 0, 1) := by decide +kernel
theorem d_L_law_427 : decode b_L_law 427 = .ok (.iload 4, 2) := by decide +kernel
theorem d_L_law_429 : decode b_L_law 429 = .ok (.iconst 1, 1) := by decide +kernel
theorem d_L_law_430 : decode b_L_law 430 = .ok (.iadd, 1) := by decide +kernel
theorem d_L_law_431 : decode b_L_law 431 = .ok (.iaload, 1) := by decide +kernel
theorem d_L_law_432 : decode b_L_law 432 = .ok (.aload_n 0, 1) := by decide +kernel
theorem d_L_law_433 : decode b_L_law 433 = .ok (.iload 4, 2) := by decide +kernel
theorem d_L_law_435 : decode b_L_law 435 = .ok (.iconst 2, 1) := by decide +kernel
theorem d_L_law_436 : decode b_L_law 436 = .ok (.iadd, 1) := by decide +kernel
theorem d_L_law_437 : decode b_L_law 437 = .ok (.iaload, 1) := by decide +kernel
theorem d_L_law_438 : decode b_L_law 438 = .ok (.aload_n 0, 1) := by decide +kernel
theorem d_L_law_439 : decode b_L_law 439 = .ok (.iload 4, 2) := by decide +kernel
theorem d_L_law_441 : decode b_L_law 441 = .ok (.iconst 3, 1) := by decide +kernel
theorem d_L_law_442 : decode b_L_law 442 = .ok (.iadd, 1) := by decide +kernel
theorem d_L_law_443 : decode b_L_law 443 = .ok (.iaload, 1) := by decide +kernel
theorem d_L_law_444 : decode b_L_law 444 = .ok (.aload_n 0, 1) := by decide +kernel
theorem d_L_law_445 : decode b_L_law 445 = .ok (.iload 4, 2) := by decide +kernel
theorem d_L_law_447 : decode b_L_law 447 = .ok (.iconst 4, 1) := by decide +kernel
theorem d_L_law_448 : decode b_L_law 448 = .ok (.iadd, 1) := by decide +kernel
theorem d_L_law_449 : decode b_L_law 449 = .ok (.iaload, 1) := by decide +kernel
theorem d_L_law_450 : decode b_L_law 450 = .ok (.aload_n 0, 1) := by decide +kernel
theorem d_L_law_451 : decode b_L_law 451 = .ok (.iload 4, 2) := by decide +kernel
theorem d_L_law_453 : decode b_L_law 453 = .ok (.iconst 5, 1) := by decide +kernel
theorem d_L_law_454 : decode b_L_law 454 = .ok (.iadd, 1) := by decide +kernel
theorem d_L_law_455 : decode b_L_law 455 = .ok (.iaload, 1) := by decide +kernel
theorem d_L_law_456 : decode b_L_law 456 = .ok (.invokevirtual 82, 3) := by decide +kernel
theorem d_L_law_459 : decode b_L_law 459 = .ok (.istore 6, 2) := by decide +kernel
theorem d_L_law_461 : decode b_L_law 461 = .ok (.aload_n 2, 1) := by decide +kernel
theorem d_L_law_462 : decode b_L_law 462 = .ok (.invokevirtual 60, 3) := by decide +kernel
theorem d_L_law_465 : decode b_L_law 465 = .ok (.iload 5, 2) := by decide +kernel
theorem d_L_law_467 : decode b_L_law 467 = .ok (.if_icmp .eq 5, 3) := by decide +kernel
theorem d_L_law_470 : decode b_L_law 470 = .ok (.iconst 0, 1) := by decide +kernel
theorem d_L_law_471 : decode b_L_law 471 = .ok (.ireturn, 1) := by decide +kernel
theorem d_L_law_472 : decode b_L_law 472 = .ok (.iload 5, 2) := by decide +kernel
theorem d_L_law_474 : decode b_L_law 474 = .ok (.ifCond .ne 15, 3) := by decide +kernel
theorem d_L_law_477 : decode b_L_law 477 = .ok (.aload_n 3, 1) := by decide +kernel
theorem d_L_law_478 : decode b_L_law 478 = .ok (.iconst 0, 1) := by decide +kernel
theorem d_L_law_479 : decode b_L_law 479 = .ok (.laload, 1) := by decide +kernel
theorem d_L_law_480 : decode b_L_law 480 = .ok (.iload 6, 2) := by decide +kernel
theorem d_L_law_482 : decode b_L_law 482 = .ok (.i2l, 1) := by decide +kernel
theorem d_L_law_483 : decode b_L_law 483 = .ok (.lcmp, 1) := by decide +kernel
theorem d_L_law_484 : decode b_L_law 484 = .ok (.ifCond .eq 5, 3) := by decide +kernel
theorem d_L_law_487 : decode b_L_law 487 = .ok (.iconst 0, 1) := by decide +kernel
theorem d_L_law_488 : decode b_L_law 488 = .ok (.ireturn, 1) := by decide +kernel
theorem d_L_law_489 : decode b_L_law 489 = .ok (.goto 412, 3) := by decide +kernel
theorem d_L_law_492 : decode b_L_law 492 = .ok (.aload_n 1, 1) := by decide +kernel
theorem d_L_law_493 : decode b_L_law 493 = .ok (.aload_n 0, 1) := by decide +kernel
theorem d_L_law_494 : decode b_L_law 494 = .ok (.iload 4, 2) := by decide +kernel
theorem d_L_law_496 : decode b_L_law 496 = .ok (.iconst 1, 1) := by decide +kernel
theorem d_L_law_497 : decode b_L_law 497 = .ok (.iadd, 1) := by decide +kernel
theorem d_L_law_498 : decode b_L_law 498 = .ok (.iaload, 1) := by decide +kernel
theorem d_L_law_499 : decode b_L_law 499 = .ok (.aload_n 0, 1) := by decide +kernel
theorem d_L_law_500 : decode b_L_law 500 = .ok (.iload 4, 2) := by decide +kernel
theorem d_L_law_502 : decode b_L_law 502 = .ok (.iconst 2, 1) := by decide +kernel
theorem d_L_law_503 : decode b_L_law 503 = .ok (.iadd, 1) := by decide +kernel
theorem d_L_law_504 : decode b_L_law 504 = .ok (.iaload, 1) := by decide +kernel
theorem d_L_law_505 : decode b_L_law 505 = .ok (.aload_n 0, 1) := by decide +kernel
theorem d_L_law_506 : decode b_L_law 506 = .ok (.iload 4, 2) := by decide +kernel
theorem d_L_law_508 : decode b_L_law 508 = .ok (.iconst 3, 1) := by decide +kernel
theorem d_L_law_509 : decode b_L_law 509 = .ok (.iadd, 1) := by decide +kernel
theorem d_L_law_510 : decode b_L_law 510 = .ok (.iaload, 1) := by decide +kernel
theorem d_L_law_511 : decode b_L_law 511 = .ok (.aload_n 0, 1) := by decide +kernel
theorem d_L_law_512 : decode b_L_law 512 = .ok (.iload 4, 2) := by decide +kernel
theorem d_L_law_514 : decode b_L_law 514 = .ok (.iconst 4, 1) := by decide +kernel
theorem d_L_law_515 : decode b_L_law 515 = .ok (.iadd, 1) := by decide +kernel
theorem d_L_law_516 : decode b_L_law 516 = .ok (.iaload, 1) := by decide +kernel
theorem d_L_law_517 : decode b_L_law 517 = .ok (.invokevirtual 83, 3) := by decide +kernel
theorem d_L_law_520 : decode b_L_law 520 = .ok (.aload_n 2, 1) := by decide +kernel
theorem d_L_law_521 : decode b_L_law 521 = .ok (.aload_n 0, 1) := by decide +kernel
theorem d_L_law_522 : decode b_L_law 522 = .ok (.iload 4, 2) := by decide +kernel
theorem d_L_law_524 : decode b_L_law 524 = .ok (.iconst 1, 1) := by decide +kernel
theorem d_L_law_525 : decode b_L_law 525 = .ok (.iadd, 1) := by decide +kernel
theorem d_L_law_526 : decode b_L_law 526 = .ok (.iaload, 1) := by decide +kernel
theorem d_L_law_527 : decode b_L_law 527 = .ok (.aload_n 0, 1) := by decide +kernel
theorem d_L_law_528 : decode b_L_law 528 = .ok (.iload 4, 2) := by decide +kernel
theorem d_L_law_530 : decode b_L_law 530 = .ok (.iconst 2, 1) := by decide +kernel
theorem d_L_law_531 : decode b_L_law 531 = .ok (.iadd, 1) := by decide +kernel
theorem d_L_law_532 : decode b_L_law 532 = .ok (.iaload, 1) := by decide +kernel
theorem d_L_law_533 : decode b_L_law 533 = .ok (.aload_n 0, 1) := by decide +kernel
theorem d_L_law_534 : decode b_L_law 534 = .ok (.iload 4, 2) := by decide +kernel
theorem d_L_law_536 : decode b_L_law 536 = .ok (.iconst 3, 1) := by decide +kernel
theorem d_L_law_537 : decode b_L_law 537 = .ok (.iadd, 1) := by decide +kernel
theorem d_L_law_538 : decode b_L_law 538 = .ok (.iaload, 1) := by decide +kernel
theorem d_L_law_539 : decode b_L_law 539 = .ok (.aload_n 0, 1) := by decide +kernel
theorem d_L_law_540 : decode b_L_law 540 = .ok (.iload 4, 2) := by decide +kernel
theorem d_L_law_542 : decode b_L_law 542 = .ok (.iconst 4, 1) := by decide +kernel
theorem d_L_law_543 : decode b_L_law 543 = .ok (.iadd, 1) := by decide +kernel
theorem d_L_law_544 : decode b_L_law 544 = .ok (.iaload, 1) := by decide +kernel
theorem d_L_law_545 : decode b_L_law 545 = .ok (.invokevirtual 87, 3) := by decide +kernel
theorem d_L_law_548 : decode b_L_law 548 = .ok (.goto 353, 3) := by decide +kernel
theorem d_L_law_551 : decode b_L_law 551 = .ok (.aload_n 1, 1) := by decide +kernel
theorem d_L_law_552 : decode b_L_law 552 = .ok (.aload_n 0, 1) := by decide +kernel
theorem d_L_law_553 : decode b_L_law 553 = .ok (.iload 4, 2) := by decide +kernel
theorem d_L_law_555 : decode b_L_law 555 = .ok (.iconst 1, 1) := by decide +kernel
theorem d_L_law_556 : decode b_L_law 556 = .ok (.iadd, 1) := by decide +kernel
theorem d_L_law_557 : decode b_L_law 557 = .ok (.iaload, 1) := by decide +kernel
theorem d_L_law_558 : decode b_L_law 558 = .ok (.aload_n 0, 1) := by decide +kernel
theorem d_L_law_559 : decode b_L_law 559 = .ok (.iload 4, 2) := by decide +kernel
theorem d_L_law_561 : decode b_L_law 561 = .ok (.iconst 2, 1) := by decide +kernel
theorem d_L_law_562 : decode b_L_law 562 = .ok (.iadd, 1) := by decide +kernel
theorem d_L_law_563 : decode b_L_law 563 = .ok (.iaload, 1) := by decide +kernel
theorem d_L_law_564 : decode b_L_law 564 = .ok (.aload_n 0, 1) := by decide +kernel
theorem d_L_law_565 : decode b_L_law 565 = .ok (.iload 4, 2) := by decide +kernel
theorem d_L_law_567 : decode b_L_law 567 = .ok (.iconst 3, 1) := by decide +kernel
theorem d_L_law_568 : decode b_L_law 568 = .ok (.iadd, 1) := by decide +kernel
theorem d_L_law_569 : decode b_L_law 569 = .ok (.iaload, 1) := by decide +kernel
theorem d_L_law_570 : decode b_L_law 570 = .ok (.aload_n 0, 1) := by decide +kernel
theorem d_L_law_571 : decode b_L_law 571 = .ok (.iload 4, 2) := by decide +kernel
theorem d_L_law_573 : decode b_L_law 573 = .ok (.iconst 4, 1) := by decide +kernel
theorem d_L_law_574 : decode b_L_law 574 = .ok (.iadd, 1) := by decide +kernel
theorem d_L_law_575 : decode b_L_law 575 = .ok (.iaload, 1) := by decide +kernel
theorem d_L_law_576 : decode b_L_law 576 = .ok (.aload_n 0, 1) := by decide +kernel
theorem d_L_law_577 : decode b_L_law 577 = .ok (.iload 4, 2) := by decide +kernel
theorem d_L_law_579 : decode b_L_law 579 = .ok (.iconst 5, 1) := by decide +kernel
theorem d_L_law_580 : decode b_L_law 580 = .ok (.iadd, 1) := by decide +kernel
theorem d_L_law_581 : decode b_L_law 581 = .ok (.iaload, 1) := by decide +kernel
theorem d_L_law_582 : decode b_L_law 582 = .ok (.aload_n 3, 1) := by decide +kernel
theorem d_L_law_583 : decode b_L_law 583 = .ok (.invokestatic 88, 3) := by decide +kernel
theorem d_L_law_586 : decode b_L_law 586 = .ok (.istore 5, 2) := by decide +kernel
theorem d_L_law_588 : decode b_L_law 588 = .ok (.aload_n 2, 1) := by decide +kernel
theorem d_L_law_589 : decode b_L_law 589 = .ok (.aload_n 0, 1) := by decide +kernel
theorem d_L_law_590 : decode b_L_law 590 = .ok (.iload 4, 2) := by decide +kernel
theorem d_L_law_592 : decode b_L_law 592 = .ok (.iconst 1, 1) := by decide +kernel
theorem d_L_law_593 : decode b_L_law 593 = .ok (.iadd, 1) := by decide +kernel
theorem d_L_law_594 : decode b_L_law 594 = .ok (.iaload, 1) := by decide +kernel
theorem d_L_law_595 : decode b_L_law 595 = .ok (.aload_n 0, 1) := by decide +kernel
theorem d_L_law_596 : decode b_L_law 596 = .ok (.iload 4, 2) := by decide +kernel
theorem d_L_law_598 : decode b_L_law 598 = .ok (.iconst 2, 1) := by decide +kernel
theorem d_L_law_599 : decode b_L_law 599 = .ok (.iadd, 1) := by decide +kernel
theorem d_L_law_600 : decode b_L_law 600 = .ok (.iaload, 1) := by decide +kernel
theorem d_L_law_601 : decode b_L_law 601 = .ok (.aload_n 0, 1) := by decide +kernel
theorem d_L_law_602 : decode b_L_law 602 = .ok (.iload 4, 2) := by decide +kernel
theorem d_L_law_604 : decode b_L_law 604 = .ok (.iconst 3, 1) := by decide +kernel
theorem d_L_law_605 : decode b_L_law 605 = .ok (.iadd, 1) := by decide +kernel
theorem d_L_law_606 : decode b_L_law 606 = .ok (.iaload, 1) := by decide +kernel
theorem d_L_law_607 : decode b_L_law 607 = .ok (.aload_n 0, 1) := by decide +kernel
theorem d_L_law_608 : decode b_L_law 608 = .ok (.iload 4, 2) := by decide +kernel
theorem d_L_law_610 : decode b_L_law 610 = .ok (.iconst 4, 1) := by decide +kernel
theorem d_L_law_611 : decode b_L_law 611 = .ok (.iadd, 1) := by decide +kernel
theorem d_L_law_612 : decode b_L_law 612 = .ok (.iaload, 1) := by decide +kernel
theorem d_L_law_613 : decode b_L_law 613 = .ok (.aload_n 0, 1) := by decide +kernel
theorem d_L_law_614 : decode b_L_law 614 = .ok (.iload 4, 2) := by decide +kernel
theorem d_L_law_616 : decode b_L_law 616 = .ok (.iconst 5, 1) := by decide +kernel
theorem d_L_law_617 : decode b_L_law 617 = .ok (.iadd, 1) := by decide +kernel
theorem d_L_law_618 : decode b_L_law 618 = .ok (.iaload, 1) := by decide +kernel
theorem d_L_law_619 : decode b_L_law 619 = .ok (.invokevirtual 90, 3) := by decide +kernel
theorem d_L_law_622 : decode b_L_law 622 = .ok (.istore 6, 2) := by decide +kernel
theorem d_L_law_624 : decode b_L_law 624 = .ok (.aload_n 2, 1) := by decide +kernel
theorem d_L_law_625 : decode b_L_law 625 = .ok (.invokevirtual 60, 3) := by decide +kernel
theorem d_L_law_628 : decode b_L_law 628 = .ok (.iload 5, 2) := by decide +kernel
theorem d_L_law_630 : decode b_L_law 630 = .ok (.if_icmp .eq 5, 3) := by decide +kernel
theorem d_L_law_633 : decode b_L_law 633 = .ok (.iconst 0, 1) := by decide +kernel
theorem d_L_law_634 : decode b_L_law 634 = .ok (.ireturn, 1) := by decide +kernel
theorem d_L_law_635 : decode b_L_law 635 = .ok (.iload 5, 2) := by decide +kernel
theorem d_L_law_637 : decode b_L_law 637 = .ok (.ifCond .ne 22, 3) := by decide +kernel
theorem d_L_law_640 : decode b_L_law 640 = .ok (.aload_n 3, 1) := by decide +kernel
theorem d_L_law_641 : decode b_L_law 641 = .ok (.iconst 0, 1) := by decide +kernel
theorem d_L_law_642 : decode b_L_law 642 = .ok (.laload, 1) := by decide +kernel
theorem d_L_law_643 : decode b_L_law 643 = .ok (.iload 6, 2) := by decide +kernel
theorem d_L_law_645 : decode b_L_law 645 = .ok (.ifCond .eq 7, 3) := by decide +kernel
theorem d_L_law_648 : decode b_L_law 648 = .ok (.lconst 1, 1) := by decide +kernel
theorem d_L_law_649 : decode b_L_law 649 = .ok (.goto 4, 3) := by decide +kernel
theorem d_L_law_652 : decode b_L_law 652 = .ok (.lconst 0, 1) := by decide +kernel
theorem d_L_law_653 : decode b_L_law 653 = .ok (.lcmp, 1) := by decide +kernel
theorem d_L_law_654 : decode b_L_law 654 = .ok (.ifCond .eq 5, 3) := by decide +kernel
theorem d_L_law_657 : decode b_L_law 657 = .ok (.iconst 0, 1) := by decide +kernel
theorem d_L_law_658 : decode b_L_law 658 = .ok (.ireturn, 1) := by decide +kernel
theorem d_L_law_659 : decode b_L_law 659 = .ok (.goto 242, 3) := by decide +kernel
theorem d_L_law_662 : decode b_L_law 662 = .ok (.aload_n 1, 1) := by decide +kernel
theorem d_L_law_663 : decode b_L_law 663 = .ok (.aload_n 0, 1) := by decide +kernel
theorem d_L_law_664 : decode b_L_law 664 = .ok (.iload 4, 2) := by decide +kernel
theorem d_L_law_666 : decode b_L_law 666 = .ok (.iconst 1, 1) := by decide +kernel
theorem d_L_law_667 : decode b_L_law 667 = .ok (.iadd, 1) := by decide +kernel
theorem d_L_law_668 : decode b_L_law 668 = .ok (.iaload, 1) := by decide +kernel
theorem d_L_law_669 : decode b_L_law 669 = .ok (.aload_n 3, 1) := by decide +kernel
theorem d_L_law_670 : decode b_L_law 670 = .ok (.invokestatic 91, 3) := by decide +kernel
theorem d_L_law_673 : decode b_L_law 673 = .ok (.istore 5, 2) := by decide +kernel
theorem d_L_law_675 : decode b_L_law 675 = .ok (.aload_n 2, 1) := by decide +kernel
theorem d_L_law_676 : decode b_L_law 676 = .ok (.aload_n 0, 1) := by decide +kernel
theorem d_L_law_677 : decode b_L_law 677 = .ok (.iload 4, 2) := by decide +kernel
theorem d_L_law_679 : decode b_L_law 679 = .ok (.iconst 1, 1) := by decide +kernel
theorem d_L_law_680 : decode b_L_law 680 = .ok (.iadd, 1) := by decide +kernel
theorem d_L_law_681 : decode b_L_law 681 = .ok (.iaload, 1) := by decide +kernel
theorem d_L_law_682 : decode b_L_law 682 = .ok (.invokevirtual 93, 3) := by decide +kernel
theorem d_L_law_685 : decode b_L_law 685 = .ok (.istore 6, 2) := by decide +kernel
theorem d_L_law_687 : decode b_L_law 687 = .ok (.aload_n 2, 1) := by decide +kernel
theorem d_L_law_688 : decode b_L_law 688 = .ok (.invokevirtual 60, 3) := by decide +kernel
theorem d_L_law_691 : decode b_L_law 691 = .ok (.iload 5, 2) := by decide +kernel
theorem d_L_law_693 : decode b_L_law 693 = .ok (.if_icmp .eq 5, 3) := by decide +kernel
theorem d_L_law_696 : decode b_L_law 696 = .ok (.iconst 0, 1) := by decide +kernel
theorem d_L_law_697 : decode b_L_law 697 = .ok (.ireturn, 1) := by decide +kernel
theorem d_L_law_698 : decode b_L_law 698 = .ok (.iload 5, 2) := by decide +kernel
theorem d_L_law_700 : decode b_L_law 700 = .ok (.ifCond .ne 22, 3) := by decide +kernel
theorem d_L_law_703 : decode b_L_law 703 = .ok (.aload_n 3, 1) := by decide +kernel
theorem d_L_law_704 : decode b_L_law 704 = .ok (.iconst 0, 1) := by decide +kernel
theorem d_L_law_705 : decode b_L_law 705 = .ok (.laload, 1) := by decide +kernel
theorem d_L_law_706 : decode b_L_law 706 = .ok (.iload 6, 2) := by decide +kernel
theorem d_L_law_708 : decode b_L_law 708 = .ok (.ifCond .eq 7, 3) := by decide +kernel
theorem d_L_law_711 : decode b_L_law 711 = .ok (.lconst 1, 1) := by decide +kernel
theorem d_L_law_712 : decode b_L_law 712 = .ok (.goto 4, 3) := by decide +kernel
theorem d_L_law_715 : decode b_L_law 715 = .ok (.lconst 0, 1) := by decide +kernel
theorem d_L_law_716 : decode b_L_law 716 = .ok (.lcmp, 1) := by decide +kernel
theorem d_L_law_717 : decode b_L_law 717 = .ok (.ifCond .eq 5, 3) := by decide +kernel
theorem d_L_law_720 : decode b_L_law 720 = .ok (.iconst 0, 1) := by decide +kernel
theorem d_L_law_721 : decode b_L_law 721 = .ok (.ireturn, 1) := by decide +kernel
theorem d_L_law_722 : decode b_L_law 722 = .ok (.goto 179, 3) := by decide +kernel
theorem d_L_law_725 : decode b_L_law 725 = .ok (.aload_n 1, 1) := by decide +kernel
theorem d_L_law_726 : decode b_L_law 726 = .ok (.aload_n 0, 1) := by decide +kernel
theorem d_L_law_727 : decode b_L_law 727 = .ok (.iload 4, 2) := by decide +kernel
theorem d_L_law_729 : decode b_L_law 729 = .ok (.iconst 1, 1) := by decide +kernel
theorem d_L_law_730 : decode b_L_law 730 = .ok (.iadd, 1) := by decide +kernel
theorem d_L_law_731 : decode b_L_law 731 = .ok (.iaload, 1) := by decide +kernel
theorem d_L_law_732 : decode b_L_law 732 = .ok (.aload_n 3, 1) := by decide +kernel
theorem d_L_law_733 : decode b_L_law 733 = .ok (.invokestatic 94, 3) := by decide +kernel
theorem d_L_law_736 : decode b_L_law 736 = .ok (.istore 5, 2) := by decide +kernel
theorem d_L_law_738 : decode b_L_law 738 = .ok (.aload_n 2, 1) := by decide +kernel
theorem d_L_law_739 : decode b_L_law 739 = .ok (.aload_n 0, 1) := by decide +kernel
theorem d_L_law_740 : decode b_L_law 740 = .ok (.iload 4, 2) := by decide +kernel
theorem d_L_law_742 : decode b_L_law 742 = .ok (.iconst 1, 1) := by decide +kernel
theorem d_L_law_743 : decode b_L_law 743 = .ok (.iadd, 1) := by decide +kernel
theorem d_L_law_744 : decode b_L_law 744 = .ok (.iaload, 1) := by decide +kernel
theorem d_L_law_745 : decode b_L_law 745 = .ok (.invokevirtual 96, 3) := by decide +kernel
theorem d_L_law_748 : decode b_L_law 748 = .ok (.istore 6, 2) := by decide +kernel
theorem d_L_law_750 : decode b_L_law 750 = .ok (.aload_n 2, 1) := by decide +kernel
theorem d_L_law_751 : decode b_L_law 751 = .ok (.invokevirtual 60, 3) := by decide +kernel
theorem d_L_law_754 : decode b_L_law 754 = .ok (.iload 5, 2) := by decide +kernel
theorem d_L_law_756 : decode b_L_law 756 = .ok (.if_icmp .eq 5, 3) := by decide +kernel
theorem d_L_law_759 : decode b_L_law 759 = .ok (.iconst 0, 1) := by decide +kernel
theorem d_L_law_760 : decode b_L_law 760 = .ok (.ireturn, 1) := by decide +kernel
theorem d_L_law_761 : decode b_L_law 761 = .ok (.iload 5, 2) := by decide +kernel
theorem d_L_law_763 : decode b_L_law 763 = .ok (.ifCond .ne 22, 3) := by decide +kernel
theorem d_L_law_766 : decode b_L_law 766 = .ok (.aload_n 3, 1) := by decide +kernel
theorem d_L_law_767 : decode b_L_law 767 = .ok (.iconst 0, 1) := by decide +kernel
theorem d_L_law_768 : decode b_L_law 768 = .ok (.laload, 1) := by decide +kernel
theorem d_L_law_769 : decode b_L_law 769 = .ok (.iload 6, 2) := by decide +kernel
theorem d_L_law_771 : decode b_L_law 771 = .ok (.ifCond .eq 7, 3) := by decide +kernel
theorem d_L_law_774 : decode b_L_law 774 = .ok (.lconst 1, 1) := by decide +kernel
theorem d_L_law_775 : decode b_L_law 775 = .ok (.goto 4, 3) := by decide +kernel
theorem d_L_law_778 : decode b_L_law 778 = .ok (.lconst 0, 1) := by decide +kernel
theorem d_L_law_779 : decode b_L_law 779 = .ok (.lcmp, 1) := by decide +kernel
theorem d_L_law_780 : decode b_L_law 780 = .ok (.ifCond .eq 5, 3) := by decide +kernel
theorem d_L_law_783 : decode b_L_law 783 = .ok (.iconst 0, 1) := by decide +kernel
theorem d_L_law_784 : decode b_L_law 784 = .ok (.ireturn, 1) := by decide +kernel
theorem d_L_law_785 : decode b_L_law 785 = .ok (.goto 116, 3) := by decide +kernel
theorem d_L_law_788 : decode b_L_law 788 = .ok (.aload_n 1, 1) := by decide +kernel
theorem d_L_law_789 : decode b_L_law 789 = .ok (.aload_n 0, 1) := by decide +kernel
theorem d_L_law_790 : decode b_L_law 790 = .ok (.iload 4, 2) := by decide +kernel
theorem d_L_law_792 : decode b_L_law 792 = .ok (.iconst 1, 1) := by decide +kernel
theorem d_L_law_793 : decode b_L_law 793 = .ok (.iadd, 1) := by decide +kernel
theorem d_L_law_794 : decode b_L_law 794 = .ok (.iaload, 1) := by decide +kernel
theorem d_L_law_795 : decode b_L_law 795 = .ok (.invokevirtual 97, 3) := by decide +kernel
theorem d_L_law_798 : decode b_L_law 798 = .ok (.aload_n 2, 1) := by decide +kernel
theorem d_L_law_799 : decode b_L_law 799 = .ok (.aload_n 0, 1) := by decide +kernel
theorem d_L_law_800 : decode b_L_law 800 = .ok (.iload 4, 2) := by decide +kernel
theorem d_L_law_802 : decode b_L_law 802 = .ok (.iconst 1, 1) := by decide +kernel
theorem d_L_law_803 : decode b_L_law 803 = .ok (.iadd, 1) := by decide +kernel
theorem d_L_law_804 : decode b_L_law 804 = .ok (.iaload, 1) := by decide +kernel
theorem d_L_law_805 : decode b_L_law 805 = .ok (.invokevirtual 100, 3) := by decide +kernel
theorem d_L_law_808 : decode b_L_law 808 = .ok (.if_icmp .eq 93, 3) := by decide +kernel
theorem d_L_law_811 : decode b_L_law 811 = .ok (.iconst 0, 1) := by decide +kernel
theorem d_L_law_812 : decode b_L_law 812 = .ok (.ireturn, 1) := by decide +kernel
theorem d_L_law_813 : decode b_L_law 813 = .ok (.aload_n 1, 1) := by decide +kernel
theorem d_L_law_814 : decode b_L_law 814 = .ok (.invokevirtual 101, 3) := by decide +kernel
theorem d_L_law_817 : decode b_L_law 817 = .ok (.aload_n 2, 1) := by decide +kernel
theorem d_L_law_818 : decode b_L_law 818 = .ok (.invokevirtual 104, 3) := by decide +kernel
theorem d_L_law_821 : decode b_L_law 821 = .ok (.if_icmp .eq 80, 3) := by decide +kernel
theorem d_L_law_824 : decode b_L_law 824 = .ok (.iconst 0, 1) := by decide +kernel
theorem d_L_law_825 : decode b_L_law 825 = .ok (.ireturn, 1) := by decide +kernel
theorem d_L_law_826 : decode b_L_law 826 = .ok (.aload_n 1, 1) := by decide +kernel
theorem d_L_law_827 : decode b_L_law 827 = .ok (.invokevirtual 105, 3) := by decide +kernel
theorem d_L_law_830 : decode b_L_law 830 = .ok (.aload_n 2, 1) := by decide +kernel
theorem d_L_law_831 : decode b_L_law 831 = .ok (.invokevirtual 109, 3) := by decide +kernel
theorem d_L_law_834 : decode b_L_law 834 = .ok (.if_icmp .eq 67, 3) := by decide +kernel
theorem d_L_law_837 : decode b_L_law 837 = .ok (.iconst 0, 1) := by decide +kernel
theorem d_L_law_838 : decode b_L_law 838 = .ok (.ireturn, 1) := by decide +kernel
theorem d_L_law_839 : decode b_L_law 839 = .ok (.aload_n 1, 1) := by decide +kernel
theorem d_L_law_840 : decode b_L_law 840 = .ok (.aload_n 0, 1) := by decide +kernel
theorem d_L_law_841 : decode b_L_law 841 = .ok (.iload 4, 2) := by decide +kernel
theorem d_L_law_843 : decode b_L_law 843 = .ok (.iconst 1, 1) := by decide +kernel
theorem d_L_law_844 : decode b_L_law 844 = .ok (.iadd, 1) := by decide +kernel
theorem d_L_law_845 : decode b_L_law 845 = .ok (.iaload, 1) := by decide +kernel
theorem d_L_law_846 : decode b_L_law 846 = .ok (.aload_n 0, 1) := by decide +kernel
theorem d_L_law_847 : decode b_L_law 847 = .ok (.iload 4, 2) := by decide +kernel
theorem d_L_law_849 : decode b_L_law 849 = .ok (.iconst 2, 1) := by decide +kernel
theorem d_L_law_850 : decode b_L_law 850 = .ok (.iadd, 1) := by decide +kernel
theorem d_L_law_851 : decode b_L_law 851 = .ok (.iaload, 1) := by decide +kernel
theorem d_L_law_852 : decode b_L_law 852 = .ok (.invokevirtual 110, 3) := by decide +kernel
theorem d_L_law_855 : decode b_L_law 855 = .ok (.aload_n 2, 1) := by decide +kernel
theorem d_L_law_856 : decode b_L_law 856 = .ok (.aload_n 0, 1) := by decide +kernel
theorem d_L_law_857 : decode b_L_law 857 = .ok (.iload 4, 2) := by decide +kernel
theorem d_L_law_859 : decode b_L_law 859 = .ok (.iconst 1, 1) := by decide +kernel
theorem d_L_law_860 : decode b_L_law 860 = .ok (.iadd, 1) := by decide +kernel
theorem d_L_law_861 : decode b_L_law 861 = .ok (.iaload, 1) := by decide +kernel
theorem d_L_law_862 : decode b_L_law 862 = .ok (.aload_n 0, 1) := by decide +kernel
theorem d_L_law_863 : decode b_L_law 863 = .ok (.iload 4, 2) := by decide +kernel
theorem d_L_law_865 : decode b_L_law 865 = .ok (.iconst 2, 1) := by decide +kernel
theorem d_L_law_866 : decode b_L_law 866 = .ok (.iadd, 1) := by decide +kernel
theorem d_L_law_867 : decode b_L_law 867 = .ok (.iaload, 1) := by decide +kernel
theorem d_L_law_868 : decode b_L_law 868 = .ok (.invokevirtual 114, 3) := by decide +kernel
theorem d_L_law_871 : decode b_L_law 871 = .ok (.if_icmp .eq 30, 3) := by decide +kernel
theorem d_L_law_874 : decode b_L_law 874 = .ok (.iconst 0, 1) := by decide +kernel
theorem d_L_law_875 : decode b_L_law 875 = .ok (.ireturn, 1) := by decide +kernel
theorem d_L_law_876 : decode b_L_law 876 = .ok (.aload_n 1, 1) := by decide +kernel
theorem d_L_law_877 : decode b_L_law 877 = .ok (.aload_n 0, 1) := by decide +kernel
theorem d_L_law_878 : decode b_L_law 878 = .ok (.iload 4, 2) := by decide +kernel
theorem d_L_law_880 : decode b_L_law 880 = .ok (.iconst 1, 1) := by decide +kernel
theorem d_L_law_881 : decode b_L_law 881 = .ok (.iadd, 1) := by decide +kernel
theorem d_L_law_882 : decode b_L_law 882 = .ok (.iaload, 1) := by decide +kernel
theorem d_L_law_883 : decode b_L_law 883 = .ok (.invokevirtual 115, 3) := by decide +kernel
theorem d_L_law_886 : decode b_L_law 886 = .ok (.aload_n 2, 1) := by decide +kernel
theorem d_L_law_887 : decode b_L_law 887 = .ok (.aload_n 0, 1) := by decide +kernel
theorem d_L_law_888 : decode b_L_law 888 = .ok (.iload 4, 2) := by decide +kernel
theorem d_L_law_890 : decode b_L_law 890 = .ok (.iconst 1, 1) := by decide +kernel
theorem d_L_law_891 : decode b_L_law 891 = .ok (.iadd, 1) := by decide +kernel
theorem d_L_law_892 : decode b_L_law 892 = .ok (.iaload, 1) := by decide +kernel
theorem d_L_law_893 : decode b_L_law 893 = .ok (.invokevirtual 118, 3) := by decide +kernel
theorem d_L_law_896 : decode b_L_law 896 = .ok (.if_icmp .eq 5, 3) := by decide +kernel
theorem d_L_law_899 : decode b_L_law 899 = .ok (.iconst 0, 1) := by decide +kernel
theorem d_L_law_900 : decode b_L_law 900 = .ok (.ireturn, 1) := by decide +kernel
theorem d_L_law_901 : decode b_L_law 901 = .ok (.iinc 4 6, 3) := by decide +kernel
theorem d_L_law_904 : decode b_L_law 904 = .ok (.goto (-881), 3) := by decide +kernel
theorem d_L_law_907 : decode b_L_law 907 = .ok (.iconst 1, 1) := by decide +kernel
theorem d_L_law_908 : decode b_L_law 908 = .ok (.ireturn, 1) := by decide +kernel
