theorem dX7_next_161 : decode cX7_next 161 = .ok (.goto 4, 3) := by decide +kernel
theorem dX7_next_164 : decode cX7_next 164 = .ok (.iconst 3, 1) := by decide +kernel
theorem dX7_next_165 : decode cX7_next 165 = .ok (.putfield 87, 3) := by decide +kernel
theorem dX7_next_168 : decode cX7_next 168 = .ok (.goto 38, 3) := by decide +kernel
theorem dX7_next_171 : decode cX7_next 171 = .ok (.aload_n 0, 1) := by decide +kernel
theorem dX7_next_172 : decode cX7_next 172 = .ok (.dup, 1) := by decide +kernel
theorem dX7_next_173 : decode cX7_next 173 = .ok (.getfield 78, 3) := by decide +kernel
theorem dX7_next_176 : decode cX7_next 176 = .ok (.iconst 1, 1) := by decide +kernel
theorem dX7_next_177 : decode cX7_next 177 = .ok (.iadd, 1) := by decide +kernel
theorem dX7_next_178 : decode cX7_next 178 = .ok (.putfield 78, 3) := by decide +kernel
theorem dX7_next_181 : decode cX7_next 181 = .ok (.aload_n 0, 1) := by decide +kernel
theorem dX7_next_182 : decode cX7_next 182 = .ok (.iload_n 1, 1) := by decide +kernel
theorem dX7_next_183 : decode cX7_next 183 = .ok (.bipush 59, 2) := by decide +kernel
theorem dX7_next_185 : decode cX7_next 185 = .ok (.if_icmp .ne 7, 3) := by decide +kernel
theorem dX7_next_188 : decode cX7_next 188 = .ok (.iconst 4, 1) := by decide +kernel
theorem dX7_next_189 : decode cX7_next 189 = .ok (.goto 14, 3) := by decide +kernel
theorem dX7_next_192 : decode cX7_next 192 = .ok (.iload_n 1, 1) := by decide +kernel
theorem dX7_next_193 : decode cX7_next 193 = .ok (.bipush 47, 2) := by decide +kernel
theorem dX7_next_195 : decode cX7_next 195 = .ok (.if_icmp .ne 7, 3) := by decide +kernel
theorem dX7_next_198 : decode cX7_next 198 = .ok (.iconst 5, 1) := by decide +kernel
theorem dX7_next_199 : decode cX7_next 199 = .ok (.goto 4, 3) := by decide +kernel
theorem dX7_next_202 : decode cX7_next 202 = .ok (.iconst 0, 1) := by decide +kernel
theorem dX7_next_203 : decode cX7_next 203 = .ok (.putfield 87, 3) := by decide +kernel
theorem dX7_next_206 : decode cX7_next 206 = .ok (.aload_n 0, 1) := by decide +kernel
theorem dX7_next_207 : decode cX7_next 207 = .ok (.aload_n 0, 1) := by decide +kernel
theorem dX7_next_208 : decode cX7_next 208 = .ok (.getfield 78, 3) := by decide +kernel
theorem dX7_next_211 : decode cX7_next 211 = .ok (.putfield 96, 3) := by decide +kernel
theorem dX7_next_214 : decode cX7_next 214 = .ok (.return_, 1) := by decide +kernel
theorem dX7_begin_0 : decode cX7_begin 0 = .ok (.aload_n 0, 1) := by decide +kernel
theorem dX7_begin_1 : decode cX7_begin 1 = .ok (.aload_n 0, 1) := by decide +kernel
theorem dX7_begin_2 : decode cX7_begin 2 = .ok (.getfield 68, 3) := by decide +kernel
theorem dX7_begin_5 : decode cX7_begin 5 = .ok (.putfield 74, 3) := by decide +kernel
theorem dX7_begin_8 : decode cX7_begin 8 = .ok (.aload_n 0, 1) := by decide +kernel
theorem dX7_begin_9 : decode cX7_begin 9 = .ok (.iconst 0, 1) := by decide +kernel
theorem dX7_begin_10 : decode cX7_begin 10 = .ok (.putfield 68, 3) := by decide +kernel
theorem dX7_begin_13 : decode cX7_begin 13 = .ok (.aload_n 0, 1) := by decide +kernel
theorem dX7_begin_14 : decode cX7_begin 14 = .ok (.iconst 0, 1) := by decide +kernel
theorem dX7_begin_15 : decode cX7_begin 15 = .ok (.putfield 78, 3) := by decide +kernel
theorem dX7_begin_18 : decode cX7_begin 18 = .ok (.aload_n 0, 1) := by decide +kernel
theorem dX7_begin_19 : decode cX7_begin 19 = .ok (.iconst 0, 1) := by decide +kernel
theorem dX7_begin_20 : decode cX7_begin 20 = .ok (.putfield 99, 3) := by decide +kernel
theorem dX7_begin_23 : decode cX7_begin 23 = .ok (.aload_n 0, 1) := by decide +kernel
theorem dX7_begin_24 : decode cX7_begin 24 = .ok (.invokevirtual 102, 3) := by decide +kernel
theorem dX7_begin_27 : decode cX7_begin 27 = .ok (.return_, 1) := by decide +kernel
theorem dX7_bad_0 : decode cX7_bad 0 = .ok (.aload_n 0, 1) := by decide +kernel
theorem dX7_bad_1 : decode cX7_bad 1 = .ok (.getfield 99, 3) := by decide +kernel
theorem dX7_bad_4 : decode cX7_bad 4 = .ok (.ifCond .ne 16, 3) := by decide +kernel
theorem dX7_bad_7 : decode cX7_bad 7 = .ok (.aload_n 0, 1) := by decide +kernel
theorem dX7_bad_8 : decode cX7_bad 8 = .ok (.iload_n 1, 1) := by decide +kernel
theorem dX7_bad_9 : decode cX7_bad 9 = .ok (.putfield 99, 3) := by decide +kernel
theorem dX7_bad_12 : decode cX7_bad 12 = .ok (.aload_n 0, 1) := by decide +kernel
theorem dX7_bad_13 : decode cX7_bad 13 = .ok (.aload_n 0, 1) := by decide +kernel
theorem dX7_bad_14 : decode cX7_bad 14 = .ok (.getfield 84, 3) := by decide +kernel
theorem dX7_bad_17 : decode cX7_bad 17 = .ok (.putfield 105, 3) := by decide +kernel
theorem dX7_bad_20 : decode cX7_bad 20 = .ok (.return_, 1) := by decide +kernel
theorem dX7_must_0 : decode cX7_must 0 = .ok (.iload_n 1, 1) := by decide +kernel
theorem dX7_must_1 : decode cX7_must 1 = .ok (.ifCond .ne 8, 3) := by decide +kernel
theorem dX7_must_4 : decode cX7_must 4 = .ok (.aload_n 0, 1) := by decide +kernel
theorem dX7_must_5 : decode cX7_must 5 = .ok (.iconst 1, 1) := by decide +kernel
theorem dX7_must_6 : decode cX7_must 6 = .ok (.invokevirtual 108, 3) := by decide +kernel
theorem dX7_must_9 : decode cX7_must 9 = .ok (.aload_n 0, 1) := by decide +kernel
theorem dX7_must_10 : decode cX7_must 10 = .ok (.getfield 99, 3) := by decide +kernel
theorem dX7_must_13 : decode cX7_must 13 = .ok (.ifCond .ne 7, 3) := by decide +kernel
theorem dX7_must_16 : decode cX7_must 16 = .ok (.aload_n 0, 1) := by decide +kernel
theorem dX7_must_17 : decode cX7_must 17 = .ok (.invokevirtual 102, 3) := by decide +kernel
theorem dX7_must_20 : decode cX7_must 20 = .ok (.return_, 1) := by decide +kernel
theorem dX7_name_0 : decode cX7_name 0 = .ok (.lconst 0, 1) := by decide +kernel
theorem dX7_name_1 : decode cX7_name 1 = .ok (.lstore_n 1, 1) := by decide +kernel
theorem dX7_name_2 : decode cX7_name 2 = .ok (.aload_n 0, 1) := by decide +kernel
theorem dX7_name_3 : decode cX7_name 3 = .ok (.getfield 84, 3) := by decide +kernel
theorem dX7_name_6 : decode cX7_name 6 = .ok (.istore_n 3, 1) := by decide +kernel
theorem dX7_name_7 : decode cX7_name 7 = .ok (.iload_n 3, 1) := by decide +kernel
theorem dX7_name_8 : decode cX7_name 8 = .ok (.aload_n 0, 1) := by decide +kernel
theorem dX7_name_9 : decode cX7_name 9 = .ok (.getfield 96, 3) := by decide +kernel
theorem dX7_name_12 : decode cX7_name 12 = .ok (.if_icmp .ge 44, 3) := by decide +kernel
theorem dX7_name_15 : decode cX7_name 15 = .ok (.aload_n 0, 1) := by decide +kernel
theorem dX7_name_16 : decode cX7_name 16 = .ok (.getfield 87, 3) := by decide +kernel
theorem dX7_name_19 : decode cX7_name 19 = .ok (.iconst 2, 1) := by decide +kernel
theorem dX7_name_20 : decode cX7_name 20 = .ok (.if_icmp .ne 36, 3) := by decide +kernel
theorem dX7_name_23 : decode cX7_name 23 = .ok (.aload_n 0, 1) := by decide +kernel
theorem dX7_name_24 : decode cX7_name 24 = .ok (.getfield 96, 3) := by decide +kernel
theorem dX7_name_27 : decode cX7_name 27 = .ok (.aload_n 0, 1) := by decide +kernel
theorem dX7_name_28 : decode cX7_name 28 = .ok (.getfield 84, 3) := by decide +kernel
theorem dX7_name_31 : decode cX7_name 31 = .ok (.isub, 1) := by decide +kernel
theorem dX7_name_32 : decode cX7_name 32 = .ok (.bipush 8, 2) := by decide +kernel
theorem dX7_name_34 : decode cX7_name 34 = .ok (.if_icmp .ge 22, 3) := by decide +kernel
theorem dX7_name_37 : decode cX7_name 37 = .ok (.lload_n 1, 1) := by decide +kernel
theorem dX7_name_38 : decode cX7_name 38 = .ok (.bipush 8, 2) := by decide +kernel
theorem dX7_name_40 : decode cX7_name 40 = .ok (.lshl, 1) := by decide +kernel
theorem dX7_name_41 : decode cX7_name 41 = .ok (.aload_n 0, 1) := by decide +kernel
theorem dX7_name_42 : decode cX7_name 42 = .ok (.getfield 28, 3) := by decide +kernel
theorem dX7_name_45 : decode cX7_name 45 = .ok (.iload_n 3, 1) := by decide +kernel
theorem dX7_name_46 : decode cX7_name 46 = .ok (.iaload, 1) := by decide +kernel
theorem dX7_name_47 : decode cX7_name 47 = .ok (.i2l, 1) := by decide +kernel
theorem dX7_name_48 : decode cX7_name 48 = .ok (.lor, 1) := by decide +kernel
theorem dX7_name_49 : decode cX7_name 49 = .ok (.lstore_n 1, 1) := by decide +kernel
theorem dX7_name_50 : decode cX7_name 50 = .ok (.iinc 3 1, 3) := by decide +kernel
theorem dX7_name_53 : decode cX7_name 53 = .ok (.goto (-46), 3) := by decide +kernel
theorem dX7_name_56 : decode cX7_name 56 = .ok (.aload_n 0, 1) := by decide +kernel
theorem dX7_name_57 : decode cX7_name 57 = .ok (.getfield 99, 3) := by decide +kernel
theorem dX7_name_60 : decode cX7_name 60 = .ok (.ifCond .ne 7, 3) := by decide +kernel
theorem dX7_name_63 : decode cX7_name 63 = .ok (.lload_n 1, 1) := by decide +kernel
theorem dX7_name_64 : decode cX7_name 64 = .ok (.goto 4, 3) := by decide +kernel
theorem dX7_name_67 : decode cX7_name 67 = .ok (.lconst 0, 1) := by decide +kernel
theorem dX7_name_68 : decode cX7_name 68 = .ok (.lreturn, 1) := by decide +kernel
theorem dX7_figures_0 : decode cX7_figures 0 = .ok (.iconst 0, 1) := by decide +kernel
theorem dX7_figures_1 : decode cX7_figures 1 = .ok (.istore_n 1, 1) := by decide +kernel
theorem dX7_figures_2 : decode cX7_figures 2 = .ok (.aload_n 0, 1) := by decide +kernel
theorem dX7_figures_3 : decode cX7_figures 3 = .ok (.getfield 84, 3) := by decide +kernel
theorem dX7_figures_6 : decode cX7_figures 6 = .ok (.istore_n 2, 1) := by decide +kernel
theorem dX7_figures_7 : decode cX7_figures 7 = .ok (.iload_n 2, 1) := by decide +kernel
theorem dX7_figures_8 : decode cX7_figures 8 = .ok (.aload_n 0, 1) := by decide +kernel
theorem dX7_figures_9 : decode cX7_figures 9 = .ok (.getfield 96, 3) := by decide +kernel
theorem dX7_figures_12 : decode cX7_figures 12 = .ok (.if_icmp .ge 32, 3) := by decide +kernel
theorem dX7_figures_15 : decode cX7_figures 15 = .ok (.aload_n 0, 1) := by decide +kernel
theorem dX7_figures_16 : decode cX7_figures 16 = .ok (.getfield 87, 3) := by decide +kernel
theorem dX7_figures_19 : decode cX7_figures 19 = .ok (.iconst 3, 1) := by decide +kernel
theorem dX7_figures_20 : decode cX7_figures 20 = .ok (.if_icmp .ne 24, 3) := by decide +kernel
theorem dX7_figures_23 : decode cX7_figures 23 = .ok (.bipush 10, 2) := by decide +kernel
theorem dX7_figures_25 : decode cX7_figures 25 = .ok (.iload_n 1, 1) := by decide +kernel
theorem dX7_figures_26 : decode cX7_figures 26 = .ok (.imul, 1) := by decide +kernel
theorem dX7_figures_27 : decode cX7_figures 27 = .ok (.aload_n 0, 1) := by decide +kernel
theorem dX7_figures_28 : decode cX7_figures 28 = .ok (.getfield 28, 3) := by decide +kernel
theorem dX7_figures_31 : decode cX7_figures 31 = .ok (.iload_n 2, 1) := by decide +kernel
theorem dX7_figures_32 : decode cX7_figures 32 = .ok (.iaload, 1) := by decide +kernel
theorem dX7_figures_33 : decode cX7_figures 33 = .ok (.iadd, 1) := by decide +kernel
theorem dX7_figures_34 : decode cX7_figures 34 = .ok (.bipush 48, 2) := by decide +kernel
theorem dX7_figures_36 : decode cX7_figures 36 = .ok (.isub, 1) := by decide +kernel
theorem dX7_figures_37 : decode cX7_figures 37 = .ok (.istore_n 1, 1) := by decide +kernel
theorem dX7_figures_38 : decode cX7_figures 38 = .ok (.iinc 2 1, 3) := by decide +kernel
theorem dX7_figures_41 : decode cX7_figures 41 = .ok (.goto (-34), 3) := by decide +kernel
theorem dX7_figures_44 : decode cX7_figures 44 = .ok (.iload_n 1, 1) := by decide +kernel
theorem dX7_figures_45 : decode cX7_figures 45 = .ok (.ireturn, 1) := by decide +kernel
theorem dX7_number_0 : decode cX7_number 0 = .ok (.aload_n 0, 1) := by decide +kernel
theorem dX7_number_1 : decode cX7_number 1 = .ok (.getfield 99, 3) := by decide +kernel
theorem dX7_number_4 : decode cX7_number 4 = .ok (.ifCond .le 5, 3) := by decide +kernel
theorem dX7_number_7 : decode cX7_number 7 = .ok (.iconst 0, 1) := by decide +kernel
theorem dX7_number_8 : decode cX7_number 8 = .ok (.ireturn, 1) := by decide +kernel
theorem dX7_number_9 : decode cX7_number 9 = .ok (.aload_n 0, 1) := by decide +kernel
theorem dX7_number_10 : decode cX7_number 10 = .ok (.invokevirtual 112, 3) := by decide +kernel
theorem dX7_number_13 : decode cX7_number 13 = .ok (.istore_n 3, 1) := by decide +kernel
theorem dX7_number_14 : decode cX7_number 14 = .ok (.aload_n 0, 1) := by decide +kernel
theorem dX7_number_15 : decode cX7_number 15 = .ok (.getfield 87, 3) := by decide +kernel
theorem dX7_number_18 : decode cX7_number 18 = .ok (.iconst 3, 1) := by decide +kernel
theorem dX7_number_19 : decode cX7_number 19 = .ok (.if_icmp .ne 20, 3) := by decide +kernel
theorem dX7_number_22 : decode cX7_number 22 = .ok (.iload_n 3, 1) := by decide +kernel
theorem dX7_number_23 : decode cX7_number 23 = .ok (.i2l, 1) := by decide +kernel
theorem dX7_number_24 : decode cX7_number 24 = .ok (.iload_n 1, 1) := by decide +kernel
theorem dX7_number_25 : decode cX7_number 25 = .ok (.i2l, 1) := by decide +kernel
theorem dX7_number_26 : decode cX7_number 26 = .ok (.iload_n 2, 1) := by decide +kernel
theorem dX7_number_27 : decode cX7_number 27 = .ok (.i2l, 1) := by decide +kernel
theorem dX7_number_28 : decode cX7_number 28 = .ok (.invokestatic 51, 3) := by decide +kernel
theorem dX7_number_31 : decode cX7_number 31 = .ok (.ifCond .ne 8, 3) := by decide +kernel
theorem dX7_number_34 : decode cX7_number 34 = .ok (.aload_n 0, 1) := by decide +kernel
theorem dX7_number_35 : decode cX7_number 35 = .ok (.iconst 2, 1) := by decide +kernel
theorem dX7_number_36 : decode cX7_number 36 = .ok (.invokevirtual 108, 3) := by decide +kernel
theorem dX7_number_39 : decode cX7_number 39 = .ok (.aload_n 0, 1) := by decide +kernel
theorem dX7_number_40 : decode cX7_number 40 = .ok (.aload_n 0, 1) := by decide +kernel
theorem dX7_number_41 : decode cX7_number 41 = .ok (.getfield 87, 3) := by decide +kernel
theorem dX7_number_44 : decode cX7_number 44 = .ok (.iconst 3, 1) := by decide +kernel
theorem dX7_number_45 : decode cX7_number 45 = .ok (.if_icmp .ne 7, 3) := by decide +kernel
theorem dX7_number_48 : decode cX7_number 48 = .ok (.iconst 1, 1) := by decide +kernel
theorem dX7_number_49 : decode cX7_number 49 = .ok (.goto 4, 3) := by decide +kernel
theorem dX7_number_52 : decode cX7_number 52 = .ok (.iconst 0, 1) := by decide +kernel
theorem dX7_number_53 : decode cX7_number 53 = .ok (.invokevirtual 116, 3) := by decide +kernel
theorem dX7_number_56 : decode cX7_number 56 = .ok (.iload_n 3, 1) := by decide +kernel
theorem dX7_number_57 : decode cX7_number 57 = .ok (.ireturn, 1) := by decide +kernel
theorem dX7_kindBy_0 : decode cX7_kindBy 0 = .ok (.lload_n 0, 1) := by decide +kernel
theorem dX7_kindBy_1 : decode cX7_kindBy 1 = .ok (.ldc2_w 120, 3) := by decide +kernel
theorem dX7_kindBy_4 : decode cX7_kindBy 4 = .ok (.lcmp, 1) := by decide +kernel
theorem dX7_kindBy_5 : decode cX7_kindBy 5 = .ok (.ifCond .ne 7, 3) := by decide +kernel
theorem dX7_kindBy_8 : decode cX7_kindBy 8 = .ok (.iconst 1, 1) := by decide +kernel
theorem dX7_kindBy_9 : decode cX7_kindBy 9 = .ok (.goto 53, 3) := by decide +kernel
theorem dX7_kindBy_12 : decode cX7_kindBy 12 = .ok (.lload_n 0, 1) := by decide +kernel
theorem dX7_kindBy_13 : decode cX7_kindBy 13 = .ok (.ldc2_w 122, 3) := by decide +kernel
theorem dX7_kindBy_16 : decode cX7_kindBy 16 = .ok (.lcmp, 1) := by decide +kernel
theorem dX7_kindBy_17 : decode cX7_kindBy 17 = .ok (.ifCond .ne 7, 3) := by decide +kernel
theorem dX7_kindBy_20 : decode cX7_kindBy 20 = .ok (.iconst 2, 1) := by decide +kernel
theorem dX7_kindBy_21 : decode cX7_kindBy 21 = .ok (.goto 41, 3) := by decide +kernel
theorem dX7_kindBy_24 : decode cX7_kindBy 24 = .ok (.lload_n 0, 1) := by decide +kernel
theorem dX7_kindBy_25 : decode cX7_kindBy 25 = .ok (.ldc2_w 124, 3) := by decide +kernel
theorem dX7_kindBy_28 : decode cX7_kindBy 28 = .ok (.lcmp, 1) := by decide +kernel
theorem dX7_kindBy_29 : decode cX7_kindBy 29 = .ok (.ifCond .ne 7, 3) := by decide +kernel
theorem dX7_kindBy_32 : decode cX7_kindBy 32 = .ok (.iconst 3, 1) := by decide +kernel
theorem dX7_kindBy_33 : decode cX7_kindBy 33 = .ok (.goto 29, 3) := by decide +kernel
theorem dX7_kindBy_36 : decode cX7_kindBy 36 = .ok (.lload_n 0, 1) := by decide +kernel
theorem dX7_kindBy_37 : decode cX7_kindBy 37 = .ok (.ldc2_w 126, 3) := by decide +kernel
theorem dX7_kindBy_40 : decode cX7_kindBy 40 = .ok (.lcmp, 1) := by decide +kernel
theorem dX7_kindBy_41 : decode cX7_kindBy 41 = .ok (.ifCond .ne 7, 3) := by decide +kernel
theorem dX7_kindBy_44 : decode cX7_kindBy 44 = .ok (.iconst 4, 1) := by decide +kernel
theorem dX7_kindBy_45 : decode cX7_kindBy 45 = .ok (.goto 17, 3) := by decide +kernel
theorem dX7_kindBy_48 : decode cX7_kindBy 48 = .ok (.lload_n 0, 1) := by decide +kernel
theorem dX7_kindBy_49 : decode cX7_kindBy 49 = .ok (.ldc2_w 128, 3) := by decide +kernel
theorem dX7_kindBy_52 : decode cX7_kindBy 52 = .ok (.lcmp, 1) := by decide +kernel
theorem dX7_kindBy_53 : decode cX7_kindBy 53 = .ok (.ifCond .ne 7, 3) := by decide +kernel
theorem dX7_kindBy_56 : decode cX7_kindBy 56 = .ok (.iconst 5, 1) := by decide +kernel
theorem dX7_kindBy_57 : decode cX7_kindBy 57 = .ok (.goto 5, 3) := by decide +kernel
theorem dX7_kindBy_60 : decode cX7_kindBy 60 = .ok (.ldc 77, 2) := by decide +kernel
theorem dX7_kindBy_62 : decode cX7_kindBy 62 = .ok (.ireturn, 1) := by decide +kernel
theorem dX7_mustEnd_0 : decode cX7_mustEnd 0 = .ok (.aload_n 0, 1) := by decide +kernel
theorem dX7_mustEnd_1 : decode cX7_mustEnd 1 = .ok (.getfield 99, 3) := by decide +kernel
theorem dX7_mustEnd_4 : decode cX7_mustEnd 4 = .ok (.ifCond .ne 20, 3) := by decide +kernel
theorem dX7_mustEnd_7 : decode cX7_mustEnd 7 = .ok (.aload_n 0, 1) := by decide +kernel
theorem dX7_mustEnd_8 : decode cX7_mustEnd 8 = .ok (.aload_n 0, 1) := by decide +kernel
theorem dX7_mustEnd_9 : decode cX7_mustEnd 9 = .ok (.getfield 87, 3) := by decide +kernel
theorem dX7_mustEnd_12 : decode cX7_mustEnd 12 = .ok (.iconst 4, 1) := by decide +kernel
theorem dX7_mustEnd_13 : decode cX7_mustEnd 13 = .ok (.if_icmp .ne 7, 3) := by decide +kernel
theorem dX7_mustEnd_16 : decode cX7_mustEnd 16 = .ok (.iconst 1, 1) := by decide +kernel
theorem dX7_mustEnd_17 : decode cX7_mustEnd 17 = .ok (.goto 4, 3) := by decide +kernel
theorem dX7_mustEnd_20 : decode cX7_mustEnd 20 = .ok (.iconst 0, 1) := by decide +kernel
theorem dX7_mustEnd_21 : decode cX7_mustEnd 21 = .ok (.invokevirtual 116, 3) := by decide +kernel
theorem dX7_mustEnd_24 : decode cX7_mustEnd 24 = .ok (.return_, 1) := by decide +kernel
theorem dX7_readLetter_0 : decode cX7_readLetter 0 = .ok (.aload_n 0, 1) := by decide +kernel
theorem dX7_readLetter_1 : decode cX7_readLetter 1 = .ok (.getfield 22, 3) := by decide +kernel
theorem dX7_readLetter_4 : decode cX7_readLetter 4 = .ok (.iconst 1, 1) := by decide +kernel
theorem dX7_readLetter_5 : decode cX7_readLetter 5 = .ok (.iaload, 1) := by decide +kernel
theorem dX7_readLetter_6 : decode cX7_readLetter 6 = .ok (.bipush 8, 2) := by decide +kernel
theorem dX7_readLetter_8 : decode cX7_readLetter 8 = .ok (.if_icmp .ne 8, 3) := by decide +kernel
theorem dX7_readLetter_11 : decode cX7_readLetter 11 = .ok (.aload_n 0, 1) := by decide +kernel
theorem dX7_readLetter_12 : decode cX7_readLetter 12 = .ok (.iconst 3, 1) := by decide +kernel
theorem dX7_readLetter_13 : decode cX7_readLetter 13 = .ok (.invokevirtual 108, 3) := by decide +kernel
theorem dX7_readLetter_16 : decode cX7_readLetter 16 = .ok (.aload_n 0, 1) := by decide +kernel
theorem dX7_readLetter_17 : decode cX7_readLetter 17 = .ok (.iconst 1, 1) := by decide +kernel
theorem dX7_readLetter_18 : decode cX7_readLetter 18 = .ok (.invokevirtual 116, 3) := by decide +kernel
theorem dX7_readLetter_21 : decode cX7_readLetter 21 = .ok (.aload_n 0, 1) := by decide +kernel
theorem dX7_readLetter_22 : decode cX7_readLetter 22 = .ok (.invokevirtual 130, 3) := by decide +kernel
theorem dX7_readLetter_25 : decode cX7_readLetter 25 = .ok (.invokestatic 134, 3) := by decide +kernel
theorem dX7_readLetter_28 : decode cX7_readLetter 28 = .ok (.istore_n 1, 1) := by decide +kernel
theorem dX7_readLetter_29 : decode cX7_readLetter 29 = .ok (.aload_n 0, 1) := by decide +kernel
theorem dX7_readLetter_30 : decode cX7_readLetter 30 = .ok (.getfield 99, 3) := by decide +kernel
theorem dX7_readLetter_33 : decode cX7_readLetter 33 = .ok (.ifCond .ne 18, 3) := by decide +kernel
theorem dX7_readLetter_36 : decode cX7_readLetter 36 = .ok (.aload_n 0, 1) := by decide +kernel
theorem dX7_readLetter_37 : decode cX7_readLetter 37 = .ok (.iload_n 1, 1) := by decide +kernel
theorem dX7_readLetter_38 : decode cX7_readLetter 38 = .ok (.ldc 77, 2) := by decide +kernel
theorem dX7_readLetter_40 : decode cX7_readLetter 40 = .ok (.if_icmp .eq 7, 3) := by decide +kernel
theorem dX7_readLetter_43 : decode cX7_readLetter 43 = .ok (.iconst 1, 1) := by decide +kernel
theorem dX7_readLetter_44 : decode cX7_readLetter 44 = .ok (.goto 4, 3) := by decide +kernel
theorem dX7_readLetter_47 : decode cX7_readLetter 47 = .ok (.iconst 0, 1) := by decide +kernel
theorem dX7_readLetter_48 : decode cX7_readLetter 48 = .ok (.invokevirtual 116, 3) := by decide +kernel
theorem dX7_readLetter_51 : decode cX7_readLetter 51 = .ok (.aload_n 0, 1) := by decide +kernel
theorem dX7_readLetter_52 : decode cX7_readLetter 52 = .ok (.iconst 0, 1) := by decide +kernel
theorem dX7_readLetter_53 : decode cX7_readLetter 53 = .ok (.sipush 511, 3) := by decide +kernel
theorem dX7_readLetter_56 : decode cX7_readLetter 56 = .ok (.invokevirtual 138, 3) := by decide +kernel
theorem dX7_readLetter_59 : decode cX7_readLetter 59 = .ok (.istore_n 2, 1) := by decide +kernel
theorem dX7_readLetter_60 : decode cX7_readLetter 60 = .ok (.aload_n 0, 1) := by decide +kernel
theorem dX7_readLetter_61 : decode cX7_readLetter 61 = .ok (.invokevirtual 142, 3) := by decide +kernel
theorem dX7_readLetter_64 : decode cX7_readLetter 64 = .ok (.aload_n 0, 1) := by decide +kernel
theorem dX7_readLetter_65 : decode cX7_readLetter 65 = .ok (.getfield 99, 3) := by decide +kernel
theorem dX7_readLetter_68 : decode cX7_readLetter 68 = .ok (.ifCond .ne 47, 3) := by decide +kernel
theorem dX7_readLetter_71 : decode cX7_readLetter 71 = .ok (.aload_n 0, 1) := by decide +kernel
theorem dX7_readLetter_72 : decode cX7_readLetter 72 = .ok (.getfield 22, 3) := by decide +kernel
theorem dX7_readLetter_75 : decode cX7_readLetter 75 = .ok (.iconst 3, 1) := by decide +kernel
theorem dX7_readLetter_76 : decode cX7_readLetter 76 = .ok (.iconst 2, 1) := by decide +kernel
theorem dX7_readLetter_77 : decode cX7_readLetter 77 = .ok (.aload_n 0, 1) := by decide +kernel
theorem dX7_readLetter_78 : decode cX7_readLetter 78 = .ok (.getfield 22, 3) := by decide +kernel
theorem dX7_readLetter_81 : decode cX7_readLetter 81 = .ok (.iconst 1, 1) := by decide +kernel
theorem dX7_readLetter_82 : decode cX7_readLetter 82 = .ok (.iaload, 1) := by decide +kernel
theorem dX7_readLetter_83 : decode cX7_readLetter 83 = .ok (.imul, 1) := by decide +kernel
theorem dX7_readLetter_84 : decode cX7_readLetter 84 = .ok (.iadd, 1) := by decide +kernel
theorem dX7_readLetter_85 : decode cX7_readLetter 85 = .ok (.iload_n 1, 1) := by decide +kernel
theorem dX7_readLetter_86 : decode cX7_readLetter 86 = .ok (.iastore, 1) := by decide +kernel
theorem dX7_readLetter_87 : decode cX7_readLetter 87 = .ok (.aload_n 0, 1) := by decide +kernel
theorem dX7_readLetter_88 : decode cX7_readLetter 88 = .ok (.getfield 22, 3) := by decide +kernel
theorem dX7_readLetter_91 : decode cX7_readLetter 91 = .ok (.iconst 3, 1) := by decide +kernel
theorem dX7_readLetter_92 : decode cX7_readLetter 92 = .ok (.iconst 2, 1) := by decide +kernel
theorem dX7_readLetter_93 : decode cX7_readLetter 93 = .ok (.aload_n 0, 1) := by decide +kernel
theorem dX7_readLetter_94 : decode cX7_readLetter 94 = .ok (.getfield 22, 3) := by decide +kernel
theorem dX7_readLetter_97 : decode cX7_readLetter 97 = .ok (.iconst 1, 1) := by decide +kernel
theorem dX7_readLetter_98 : decode cX7_readLetter 98 = .ok (.iaload, 1) := by decide +kernel
theorem dX7_readLetter_99 : decode cX7_readLetter 99 = .ok (.imul, 1) := by decide +kernel
theorem dX7_readLetter_100 : decode cX7_readLetter 100 = .ok (.iadd, 1) := by decide +kernel
theorem dX7_readLetter_101 : decode cX7_readLetter 101 = .ok (.iconst 1, 1) := by decide +kernel
theorem dX7_readLetter_102 : decode cX7_readLetter 102 = .ok (.iadd, 1) := by decide +kernel
theorem dX7_readLetter_103 : decode cX7_readLetter 103 = .ok (.iload_n 2, 1) := by decide +kernel
theorem dX7_readLetter_104 : decode cX7_readLetter 104 = .ok (.iastore, 1) := by decide +kernel
theorem dX7_readLetter_105 : decode cX7_readLetter 105 = .ok (.aload_n 0, 1) := by decide +kernel
theorem dX7_readLetter_106 : decode cX7_readLetter 106 = .ok (.getfield 22, 3) := by decide +kernel
theorem dX7_readLetter_109 : decode cX7_readLetter 109 = .ok (.iconst 1, 1) := by decide +kernel
theorem dX7_readLetter_110 : decode cX7_readLetter 110 = .ok (.dup2, 1) := by decide +kernel
theorem dX7_readLetter_111 : decode cX7_readLetter 111 = .ok (.iaload, 1) := by decide +kernel
theorem dX7_readLetter_112 : decode cX7_readLetter 112 = .ok (.iconst 1, 1) := by decide +kernel
theorem dX7_readLetter_113 : decode cX7_readLetter 113 = .ok (.iadd, 1) := by decide +kernel
theorem dX7_readLetter_114 : decode cX7_readLetter 114 = .ok (.iastore, 1) := by decide +kernel
theorem dX7_readLetter_115 : decode cX7_readLetter 115 = .ok (.return_, 1) := by decide +kernel
theorem dX7_readFront_0 : decode cX7_readFront 0 = .ok (.aload_n 0, 1) := by decide +kernel
theorem dX7_readFront_1 : decode cX7_readFront 1 = .ok (.getfield 99, 3) := by decide +kernel
theorem dX7_readFront_4 : decode cX7_readFront 4 = .ok (.ifCond .ne 97, 3) := by decide +kernel
theorem dX7_readFront_7 : decode cX7_readFront 7 = .ok (.aload_n 0, 1) := by decide +kernel
theorem dX7_readFront_8 : decode cX7_readFront 8 = .ok (.getfield 87, 3) := by decide +kernel
theorem dX7_readFront_11 : decode cX7_readFront 11 = .ok (.iconst 3, 1) := by decide +kernel
theorem dX7_readFront_12 : decode cX7_readFront 12 = .ok (.if_icmp .ne 89, 3) := by decide +kernel
theorem dX7_readFront_15 : decode cX7_readFront 15 = .ok (.aload_n 0, 1) := by decide +kernel
theorem dX7_readFront_16 : decode cX7_readFront 16 = .ok (.invokevirtual 112, 3) := by decide +kernel
theorem dX7_readFront_19 : decode cX7_readFront 19 = .ok (.i2l, 1) := by decide +kernel
theorem dX7_readFront_20 : decode cX7_readFront 20 = .ok (.lconst 0, 1) := by decide +kernel
theorem dX7_readFront_21 : decode cX7_readFront 21 = .ok (.aload_n 0, 1) := by decide +kernel
theorem dX7_readFront_22 : decode cX7_readFront 22 = .ok (.getfield 22, 3) := by decide +kernel
theorem dX7_readFront_25 : decode cX7_readFront 25 = .ok (.iconst 1, 1) := by decide +kernel
theorem dX7_readFront_26 : decode cX7_readFront 26 = .ok (.iaload, 1) := by decide +kernel
theorem dX7_readFront_27 : decode cX7_readFront 27 = .ok (.iconst 1, 1) := by decide +kernel
theorem dX7_readFront_28 : decode cX7_readFront 28 = .ok (.isub, 1) := by decide +kernel
theorem dX7_readFront_29 : decode cX7_readFront 29 = .ok (.i2l, 1) := by decide +kernel
theorem dX7_readFront_30 : decode cX7_readFront 30 = .ok (.invokestatic 51, 3) := by decide +kernel
theorem dX7_readFront_33 : decode cX7_readFront 33 = .ok (.ifCond .eq 19, 3) := by decide +kernel
theorem dX7_readFront_36 : decode cX7_readFront 36 = .ok (.aload_n 0, 1) := by decide +kernel
theorem dX7_readFront_37 : decode cX7_readFront 37 = .ok (.getfield 22, 3) := by decide +kernel
theorem dX7_readFront_40 : decode cX7_readFront 40 = .ok (.iconst 2, 1) := by decide +kernel
theorem dX7_readFront_41 : decode cX7_readFront 41 = .ok (.iaload, 1) := by decide +kernel
theorem dX7_readFront_42 : decode cX7_readFront 42 = .ok (.bipush 9, 2) := by decide +kernel
theorem dX7_readFront_44 : decode cX7_readFront 44 = .ok (.if_icmp .ne 8, 3) := by decide +kernel
theorem dX7_readFront_47 : decode cX7_readFront 47 = .ok (.aload_n 0, 1) := by decide +kernel
theorem dX7_readFront_48 : decode cX7_readFront 48 = .ok (.iconst 3, 1) := by decide +kernel
theorem dX7_readFront_49 : decode cX7_readFront 49 = .ok (.invokevirtual 108, 3) := by decide +kernel
theorem dX7_readFront_52 : decode cX7_readFront 52 = .ok (.aload_n 0, 1) := by decide +kernel
theorem dX7_readFront_53 : decode cX7_readFront 53 = .ok (.iconst 0, 1) := by decide +kernel
theorem dX7_readFront_54 : decode cX7_readFront 54 = .ok (.aload_n 0, 1) := by decide +kernel
theorem dX7_readFront_55 : decode cX7_readFront 55 = .ok (.getfield 22, 3) := by decide +kernel
theorem dX7_readFront_58 : decode cX7_readFront 58 = .ok (.iconst 1, 1) := by decide +kernel
theorem dX7_readFront_59 : decode cX7_readFront 59 = .ok (.iaload, 1) := by decide +kernel
theorem dX7_readFront_60 : decode cX7_readFront 60 = .ok (.iconst 1, 1) := by decide +kernel
theorem dX7_readFront_61 : decode cX7_readFront 61 = .ok (.isub, 1) := by decide +kernel
theorem dX7_readFront_62 : decode cX7_readFront 62 = .ok (.invokevirtual 138, 3) := by decide +kernel
theorem dX7_readFront_65 : decode cX7_readFront 65 = .ok (.istore_n 1, 1) := by decide +kernel
theorem dX7_readFront_66 : decode cX7_readFront 66 = .ok (.aload_n 0, 1) := by decide +kernel
theorem dX7_readFront_67 : decode cX7_readFront 67 = .ok (.getfield 99, 3) := by decide +kernel
theorem dX7_readFront_70 : decode cX7_readFront 70 = .ok (.ifCond .ne 28, 3) := by decide +kernel
theorem dX7_readFront_73 : decode cX7_readFront 73 = .ok (.aload_n 0, 1) := by decide +kernel
theorem dX7_readFront_74 : decode cX7_readFront 74 = .ok (.getfield 22, 3) := by decide +kernel
theorem dX7_readFront_77 : decode cX7_readFront 77 = .ok (.bipush 19, 2) := by decide +kernel
theorem dX7_readFront_79 : decode cX7_readFront 79 = .ok (.aload_n 0, 1) := by decide +kernel
theorem dX7_readFront_80 : decode cX7_readFront 80 = .ok (.getfield 22, 3) := by decide +kernel
theorem dX7_readFront_83 : decode cX7_readFront 83 = .ok (.iconst 2, 1) := by decide +kernel
theorem dX7_readFront_84 : decode cX7_readFront 84 = .ok (.iaload, 1) := by decide +kernel
theorem dX7_readFront_85 : decode cX7_readFront 85 = .ok (.iadd, 1) := by decide +kernel
theorem dX7_readFront_86 : decode cX7_readFront 86 = .ok (.iload_n 1, 1) := by decide +kernel
theorem dX7_readFront_87 : decode cX7_readFront 87 = .ok (.iastore, 1) := by decide +kernel
theorem dX7_readFront_88 : decode cX7_readFront 88 = .ok (.aload_n 0, 1) := by decide +kernel
theorem dX7_readFront_89 : decode cX7_readFront 89 = .ok (.getfield 22, 3) := by decide +kernel
theorem dX7_readFront_92 : decode cX7_readFront 92 = .ok (.iconst 2, 1) := by decide +kernel
theorem dX7_readFront_93 : decode cX7_readFront 93 = .ok (.dup2, 1) := by decide +kernel
theorem dX7_readFront_94 : decode cX7_readFront 94 = .ok (.iaload, 1) := by decide +kernel
theorem dX7_readFront_95 : decode cX7_readFront 95 = .ok (.iconst 1, 1) := by decide +kernel
theorem dX7_readFront_96 : decode cX7_readFront 96 = .ok (.iadd, 1) := by decide +kernel
theorem dX7_readFront_97 : decode cX7_readFront 97 = .ok (.iastore, 1) := by decide +kernel
theorem dX7_readFront_98 : decode cX7_readFront 98 = .ok (.goto (-98), 3) := by decide +kernel
theorem dX7_readFront_101 : decode cX7_readFront 101 = .ok (.return_, 1) := by decide +kernel
theorem dX7_readSheet_0 : decode cX7_readSheet 0 = .ok (.aload_n 0, 1) := by decide +kernel
theorem dX7_readSheet_1 : decode cX7_readSheet 1 = .ok (.aload_n 0, 1) := by decide +kernel
theorem dX7_readSheet_2 : decode cX7_readSheet 2 = .ok (.invokevirtual 130, 3) := by decide +kernel
theorem dX7_readSheet_5 : decode cX7_readSheet 5 = .ok (.ldc2_w 145, 3) := by decide +kernel
theorem dX7_readSheet_8 : decode cX7_readSheet 8 = .ok (.lcmp, 1) := by decide +kernel
theorem dX7_readSheet_9 : decode cX7_readSheet 9 = .ok (.ifCond .ne 7, 3) := by decide +kernel
theorem dX7_readSheet_12 : decode cX7_readSheet 12 = .ok (.iconst 1, 1) := by decide +kernel
theorem dX7_readSheet_13 : decode cX7_readSheet 13 = .ok (.goto 4, 3) := by decide +kernel
theorem dX7_readSheet_16 : decode cX7_readSheet 16 = .ok (.iconst 0, 1) := by decide +kernel
theorem dX7_readSheet_17 : decode cX7_readSheet 17 = .ok (.invokevirtual 116, 3) := by decide +kernel
theorem dX7_readSheet_20 : decode cX7_readSheet 20 = .ok (.aload_n 0, 1) := by decide +kernel
theorem dX7_readSheet_21 : decode cX7_readSheet 21 = .ok (.invokevirtual 147, 3) := by decide +kernel
theorem dX7_readSheet_24 : decode cX7_readSheet 24 = .ok (.aload_n 0, 1) := by decide +kernel
theorem dX7_readSheet_25 : decode cX7_readSheet 25 = .ok (.getfield 99, 3) := by decide +kernel
theorem dX7_readSheet_28 : decode cX7_readSheet 28 = .ok (.ifCond .ne 20, 3) := by decide +kernel
theorem dX7_readSheet_31 : decode cX7_readSheet 31 = .ok (.aload_n 0, 1) := by decide +kernel
theorem dX7_readSheet_32 : decode cX7_readSheet 32 = .ok (.aload_n 0, 1) := by decide +kernel
theorem dX7_readSheet_33 : decode cX7_readSheet 33 = .ok (.getfield 87, 3) := by decide +kernel
theorem dX7_readSheet_36 : decode cX7_readSheet 36 = .ok (.iconst 5, 1) := by decide +kernel
theorem dX7_readSheet_37 : decode cX7_readSheet 37 = .ok (.if_icmp .ne 7, 3) := by decide +kernel
theorem dX7_readSheet_40 : decode cX7_readSheet 40 = .ok (.iconst 1, 1) := by decide +kernel
theorem dX7_readSheet_41 : decode cX7_readSheet 41 = .ok (.goto 4, 3) := by decide +kernel
theorem dX7_readSheet_44 : decode cX7_readSheet 44 = .ok (.iconst 0, 1) := by decide +kernel
theorem dX7_readSheet_45 : decode cX7_readSheet 45 = .ok (.invokevirtual 116, 3) := by decide +kernel
theorem dX7_readSheet_48 : decode cX7_readSheet 48 = .ok (.iconst 0, 1) := by decide +kernel
theorem dX7_readSheet_49 : decode cX7_readSheet 49 = .ok (.istore_n 1, 1) := by decide +kernel
theorem dX7_readSheet_50 : decode cX7_readSheet 50 = .ok (.iload_n 1, 1) := by decide +kernel
theorem dX7_readSheet_51 : decode cX7_readSheet 51 = .ok (.aload_n 0, 1) := by decide +kernel
theorem dX7_readSheet_52 : decode cX7_readSheet 52 = .ok (.getfield 22, 3) := by decide +kernel
theorem dX7_readSheet_55 : decode cX7_readSheet 55 = .ok (.iconst 2, 1) := by decide +kernel
theorem dX7_readSheet_56 : decode cX7_readSheet 56 = .ok (.iaload, 1) := by decide +kernel
theorem dX7_readSheet_57 : decode cX7_readSheet 57 = .ok (.if_icmp .ge 51, 3) := by decide +kernel
theorem dX7_readSheet_60 : decode cX7_readSheet 60 = .ok (.aload_n 0, 1) := by decide +kernel
theorem dX7_readSheet_61 : decode cX7_readSheet 61 = .ok (.getfield 99, 3) := by decide +kernel
theorem dX7_readSheet_64 : decode cX7_readSheet 64 = .ok (.ifCond .ne 44, 3) := by decide +kernel
theorem dX7_readSheet_67 : decode cX7_readSheet 67 = .ok (.aload_n 0, 1) := by decide +kernel
theorem dX7_readSheet_68 : decode cX7_readSheet 68 = .ok (.iconst 0, 1) := by decide +kernel
theorem dX7_readSheet_69 : decode cX7_readSheet 69 = .ok (.aload_n 0, 1) := by decide +kernel
theorem dX7_readSheet_70 : decode cX7_readSheet 70 = .ok (.getfield 22, 3) := by decide +kernel
theorem dX7_readSheet_73 : decode cX7_readSheet 73 = .ok (.iconst 1, 1) := by decide +kernel
theorem dX7_readSheet_74 : decode cX7_readSheet 74 = .ok (.iaload, 1) := by decide +kernel
theorem dX7_readSheet_75 : decode cX7_readSheet 75 = .ok (.iconst 1, 1) := by decide +kernel
theorem dX7_readSheet_76 : decode cX7_readSheet 76 = .ok (.isub, 1) := by decide +kernel
theorem dX7_readSheet_77 : decode cX7_readSheet 77 = .ok (.invokevirtual 138, 3) := by decide +kernel
theorem dX7_readSheet_80 : decode cX7_readSheet 80 = .ok (.istore_n 2, 1) := by decide +kernel
theorem dX7_readSheet_81 : decode cX7_readSheet 81 = .ok (.aload_n 0, 1) := by decide +kernel
theorem dX7_readSheet_82 : decode cX7_readSheet 82 = .ok (.getfield 22, 3) := by decide +kernel
theorem dX7_readSheet_85 : decode cX7_readSheet 85 = .ok (.bipush 28, 2) := by decide +kernel
theorem dX7_readSheet_87 : decode cX7_readSheet 87 = .ok (.iload_n 1, 1) := by decide +kernel
theorem dX7_readSheet_88 : decode cX7_readSheet 88 = .ok (.iadd, 1) := by decide +kernel
theorem dX7_readSheet_89 : decode cX7_readSheet 89 = .ok (.aload_n 0, 1) := by decide +kernel
theorem dX7_readSheet_90 : decode cX7_readSheet 90 = .ok (.getfield 99, 3) := by decide +kernel
theorem dX7_readSheet_93 : decode cX7_readSheet 93 = .ok (.ifCond .ne 7, 3) := by decide +kernel
theorem dX7_readSheet_96 : decode cX7_readSheet 96 = .ok (.iload_n 2, 1) := by decide +kernel
theorem dX7_readSheet_97 : decode cX7_readSheet 97 = .ok (.goto 4, 3) := by decide +kernel
theorem dX7_readSheet_100 : decode cX7_readSheet 100 = .ok (.iconst 0, 1) := by decide +kernel
theorem dX7_readSheet_101 : decode cX7_readSheet 101 = .ok (.iastore, 1) := by decide +kernel
theorem dX7_readSheet_102 : decode cX7_readSheet 102 = .ok (.iinc 1 1, 3) := by decide +kernel
theorem dX7_readSheet_105 : decode cX7_readSheet 105 = .ok (.goto (-55), 3) := by decide +kernel
theorem dX7_readSheet_108 : decode cX7_readSheet 108 = .ok (.aload_n 0, 1) := by decide +kernel
theorem dX7_readSheet_109 : decode cX7_readSheet 109 = .ok (.invokevirtual 142, 3) := by decide +kernel
theorem dX7_readSheet_112 : decode cX7_readSheet 112 = .ok (.return_, 1) := by decide +kernel
theorem dX7_page_0 : decode cX7_page 0 = .ok (.aload_n 0, 1) := by decide +kernel
theorem dX7_page_1 : decode cX7_page 1 = .ok (.iconst 0, 1) := by decide +kernel
theorem dX7_page_2 : decode cX7_page 2 = .ok (.putfield 41, 3) := by decide +kernel
theorem dX7_page_5 : decode cX7_page 5 = .ok (.aload_n 0, 1) := by decide +kernel
theorem dX7_page_6 : decode cX7_page 6 = .ok (.invokevirtual 150, 3) := by decide +kernel
theorem dX7_page_9 : decode cX7_page 9 = .ok (.iconst 0, 1) := by decide +kernel
theorem dX7_page_10 : decode cX7_page 10 = .ok (.istore_n 1, 1) := by decide +kernel
theorem dX7_page_11 : decode cX7_page 11 = .ok (.iload_n 1, 1) := by decide +kernel
theorem dX7_page_12 : decode cX7_page 12 = .ok (.bipush 37, 2) := by decide +kernel
theorem dX7_page_14 : decode cX7_page 14 = .ok (.if_icmp .ge 16, 3) := by decide +kernel
theorem dX7_page_17 : decode cX7_page 17 = .ok (.aload_n 0, 1) := by decide +kernel
theorem dX7_page_18 : decode cX7_page 18 = .ok (.getfield 22, 3) := by decide +kernel
theorem dX7_page_21 : decode cX7_page 21 = .ok (.iload_n 1, 1) := by decide +kernel
theorem dX7_page_22 : decode cX7_page 22 = .ok (.iconst 0, 1) := by decide +kernel
theorem dX7_page_23 : decode cX7_page 23 = .ok (.iastore, 1) := by decide +kernel
theorem dX7_page_24 : decode cX7_page 24 = .ok (.iinc 1 1, 3) := by decide +kernel
theorem dX7_page_27 : decode cX7_page 27 = .ok (.goto (-16), 3) := by decide +kernel
theorem dX7_page_30 : decode cX7_page 30 = .ok (.aload_n 0, 1) := by decide +kernel
theorem dX7_page_31 : decode cX7_page 31 = .ok (.aload_n 0, 1) := by decide +kernel
theorem dX7_page_32 : decode cX7_page 32 = .ok (.invokevirtual 130, 3) := by decide +kernel
theorem dX7_page_35 : decode cX7_page 35 = .ok (.ldc2_w 153, 3) := by decide +kernel
theorem dX7_page_38 : decode cX7_page 38 = .ok (.lcmp, 1) := by decide +kernel
theorem dX7_page_39 : decode cX7_page 39 = .ok (.ifCond .ne 7, 3) := by decide +kernel
theorem dX7_page_42 : decode cX7_page 42 = .ok (.iconst 1, 1) := by decide +kernel
theorem dX7_page_43 : decode cX7_page 43 = .ok (.goto 4, 3) := by decide +kernel
theorem dX7_page_46 : decode cX7_page 46 = .ok (.iconst 0, 1) := by decide +kernel
theorem dX7_page_47 : decode cX7_page 47 = .ok (.invokevirtual 116, 3) := by decide +kernel
theorem dX7_page_50 : decode cX7_page 50 = .ok (.aload_n 0, 1) := by decide +kernel
theorem dX7_page_51 : decode cX7_page 51 = .ok (.getfield 22, 3) := by decide +kernel
theorem dX7_page_54 : decode cX7_page 54 = .ok (.iconst 0, 1) := by decide +kernel
theorem dX7_page_55 : decode cX7_page 55 = .ok (.aload_n 0, 1) := by decide +kernel
theorem dX7_page_56 : decode cX7_page 56 = .ok (.iconst 0, 1) := by decide +kernel
theorem dX7_page_57 : decode cX7_page 57 = .ok (.bipush 9, 2) := by decide +kernel
theorem dX7_page_59 : decode cX7_page 59 = .ok (.invokevirtual 138, 3) := by decide +kernel
theorem dX7_page_62 : decode cX7_page 62 = .ok (.iastore, 1) := by decide +kernel
theorem dX7_page_63 : decode cX7_page 63 = .ok (.aload_n 0, 1) := by decide +kernel
theorem dX7_page_64 : decode cX7_page 64 = .ok (.invokevirtual 142, 3) := by decide +kernel
theorem dX7_page_67 : decode cX7_page 67 = .ok (.aload_n 0, 1) := by decide +kernel
theorem dX7_page_68 : decode cX7_page 68 = .ok (.invokevirtual 130, 3) := by decide +kernel
theorem dX7_page_71 : decode cX7_page 71 = .ok (.ldc2_w 155, 3) := by decide +kernel
theorem dX7_page_74 : decode cX7_page 74 = .ok (.lcmp, 1) := by decide +kernel
theorem dX7_page_75 : decode cX7_page 75 = .ok (.ifCond .eq 8, 3) := by decide +kernel
theorem dX7_page_78 : decode cX7_page 78 = .ok (.aload_n 0, 1) := by decide +kernel
theorem dX7_page_79 : decode cX7_page 79 = .ok (.iconst 1, 1) := by decide +kernel
theorem dX7_page_80 : decode cX7_page 80 = .ok (.invokevirtual 108, 3) := by decide +kernel
theorem dX7_page_83 : decode cX7_page 83 = .ok (.aload_n 0, 1) := by decide +kernel
theorem dX7_page_84 : decode cX7_page 84 = .ok (.invokevirtual 130, 3) := by decide +kernel
theorem dX7_page_87 : decode cX7_page 87 = .ok (.ldc2_w 155, 3) := by decide +kernel
theorem dX7_page_90 : decode cX7_page 90 = .ok (.lcmp, 1) := by decide +kernel
theorem dX7_page_91 : decode cX7_page 91 = .ok (.ifCond .ne 10, 3) := by decide +kernel
theorem dX7_page_94 : decode cX7_page 94 = .ok (.aload_n 0, 1) := by decide +kernel
theorem dX7_page_95 : decode cX7_page 95 = .ok (.invokevirtual 157, 3) := by decide +kernel
theorem dX7_page_98 : decode cX7_page 98 = .ok (.goto (-15), 3) := by decide +kernel
theorem dX7_page_101 : decode cX7_page 101 = .ok (.aload_n 0, 1) := by decide +kernel
theorem dX7_page_102 : decode cX7_page 102 = .ok (.invokevirtual 160, 3) := by decide +kernel
theorem dX7_page_105 : decode cX7_page 105 = .ok (.aload_n 0, 1) := by decide +kernel
theorem dX7_page_106 : decode cX7_page 106 = .ok (.getfield 99, 3) := by decide +kernel
theorem dX7_page_109 : decode cX7_page 109 = .ok (.ifCond .ne 16, 3) := by decide +kernel
theorem dX7_page_112 : decode cX7_page 112 = .ok (.aload_n 0, 1) := by decide +kernel
theorem dX7_page_113 : decode cX7_page 113 = .ok (.getfield 87, 3) := by decide +kernel
theorem dX7_page_116 : decode cX7_page 116 = .ok (.iconst 1, 1) := by decide +kernel
theorem dX7_page_117 : decode cX7_page 117 = .ok (.if_icmp .eq 8, 3) := by decide +kernel
theorem dX7_page_120 : decode cX7_page 120 = .ok (.aload_n 0, 1) := by decide +kernel
theorem dX7_page_121 : decode cX7_page 121 = .ok (.iconst 1, 1) := by decide +kernel
theorem dX7_page_122 : decode cX7_page 122 = .ok (.invokevirtual 108, 3) := by decide +kernel
theorem dX7_page_125 : decode cX7_page 125 = .ok (.aload_n 0, 1) := by decide +kernel
theorem dX7_page_126 : decode cX7_page 126 = .ok (.getfield 99, 3) := by decide +kernel
theorem dX7_page_129 : decode cX7_page 129 = .ok (.ifCond .le 19, 3) := by decide +kernel
theorem dX7_page_132 : decode cX7_page 132 = .ok (.aload_n 0, 1) := by decide +kernel
theorem dX7_page_133 : decode cX7_page 133 = .ok (.aload_n 0, 1) := by decide +kernel
theorem dX7_page_134 : decode cX7_page 134 = .ok (.getfield 99, 3) := by decide +kernel
theorem dX7_page_137 : decode cX7_page 137 = .ok (.putfield 163, 3) := by decide +kernel
theorem dX7_page_140 : decode cX7_page 140 = .ok (.ldc 166, 2) := by decide +kernel
theorem dX7_page_142 : decode cX7_page 142 = .ok (.aload_n 0, 1) := by decide +kernel
theorem dX7_page_143 : decode cX7_page 143 = .ok (.getfield 105, 3) := by decide +kernel
theorem dX7_page_146 : decode cX7_page 146 = .ok (.isub, 1) := by decide +kernel
theorem dX7_page_147 : decode cX7_page 147 = .ok (.ireturn, 1) := by decide +kernel
theorem dX7_page_148 : decode cX7_page 148 = .ok (.aload_n 0, 1) := by decide +kernel
theorem dX7_page_149 : decode cX7_page 149 = .ok (.iconst 0, 1) := by decide +kernel
theorem dX7_page_150 : decode cX7_page 150 = .ok (.putfield 167, 3) := by decide +kernel
theorem dX7_page_153 : decode cX7_page 153 = .ok (.iconst 0, 1) := by decide +kernel
theorem dX7_page_154 : decode cX7_page 154 = .ok (.istore_n 1, 1) := by decide +kernel
theorem dX7_page_155 : decode cX7_page 155 = .ok (.iload_n 1, 1) := by decide +kernel
theorem dX7_page_156 : decode cX7_page 156 = .ok (.bipush 37, 2) := by decide +kernel
theorem dX7_page_158 : decode cX7_page 158 = .ok (.if_icmp .ge 21, 3) := by decide +kernel
theorem dX7_page_161 : decode cX7_page 161 = .ok (.aload_n 0, 1) := by decide +kernel
theorem dX7_page_162 : decode cX7_page 162 = .ok (.getfield 19, 3) := by decide +kernel
theorem dX7_page_165 : decode cX7_page 165 = .ok (.iload_n 1, 1) := by decide +kernel
theorem dX7_page_166 : decode cX7_page 166 = .ok (.aload_n 0, 1) := by decide +kernel
theorem dX7_page_167 : decode cX7_page 167 = .ok (.getfield 22, 3) := by decide +kernel
theorem dX7_page_170 : decode cX7_page 170 = .ok (.iload_n 1, 1) := by decide +kernel
theorem dX7_page_171 : decode cX7_page 171 = .ok (.iaload, 1) := by decide +kernel
theorem dX7_page_172 : decode cX7_page 172 = .ok (.iastore, 1) := by decide +kernel
theorem dX7_page_173 : decode cX7_page 173 = .ok (.iinc 1 1, 3) := by decide +kernel
theorem dX7_page_176 : decode cX7_page 176 = .ok (.goto (-21), 3) := by decide +kernel
theorem dX7_page_179 : decode cX7_page 179 = .ok (.aload_n 0, 1) := by decide +kernel
theorem dX7_page_180 : decode cX7_page 180 = .ok (.getfield 19, 3) := by decide +kernel
theorem dX7_page_183 : decode cX7_page 183 = .ok (.iconst 2, 1) := by decide +kernel
theorem dX7_page_184 : decode cX7_page 184 = .ok (.iaload, 1) := by decide +kernel
theorem dX7_page_185 : decode cX7_page 185 = .ok (.ireturn, 1) := by decide +kernel
theorem dX7_fault_0 : decode cX7_fault 0 = .ok (.aload_n 0, 1) := by decide +kernel
theorem dX7_fault_1 : decode cX7_fault 1 = .ok (.iconst 0, 1) := by decide +kernel
theorem dX7_fault_2 : decode cX7_fault 2 = .ok (.putfield 41, 3) := by decide +kernel
theorem dX7_fault_5 : decode cX7_fault 5 = .ok (.aload_n 0, 1) := by decide +kernel
theorem dX7_fault_6 : decode cX7_fault 6 = .ok (.getfield 163, 3) := by decide +kernel
theorem dX7_fault_9 : decode cX7_fault 9 = .ok (.ireturn, 1) := by decide +kernel
theorem dX7_isThere_0 : decode cX7_isThere 0 = .ok (.aload_n 0, 1) := by decide +kernel
theorem dX7_isThere_1 : decode cX7_isThere 1 = .ok (.getfield 19, 3) := by decide +kernel
theorem dX7_isThere_4 : decode cX7_isThere 4 = .ok (.iconst 1, 1) := by decide +kernel
theorem dX7_isThere_5 : decode cX7_isThere 5 = .ok (.iaload, 1) := by decide +kernel
theorem dX7_isThere_6 : decode cX7_isThere 6 = .ok (.ifCond .le 7, 3) := by decide +kernel
theorem dX7_isThere_9 : decode cX7_isThere 9 = .ok (.iconst 1, 1) := by decide +kernel
theorem dX7_isThere_10 : decode cX7_isThere 10 = .ok (.goto 4, 3) := by decide +kernel
theorem dX7_isThere_13 : decode cX7_isThere 13 = .ok (.iconst 0, 1) := by decide +kernel
theorem dX7_isThere_14 : decode cX7_isThere 14 = .ok (.ireturn, 1) := by decide +kernel
theorem dX7_isOne_0 : decode cX7_isOne 0 = .ok (.iload_n 1, 1) := by decide +kernel
theorem dX7_isOne_1 : decode cX7_isOne 1 = .ok (.i2l, 1) := by decide +kernel
theorem dX7_isOne_2 : decode cX7_isOne 2 = .ok (.lconst 0, 1) := by decide +kernel
theorem dX7_isOne_3 : decode cX7_isOne 3 = .ok (.aload_n 0, 1) := by decide +kernel
theorem dX7_isOne_4 : decode cX7_isOne 4 = .ok (.getfield 19, 3) := by decide +kernel
theorem dX7_isOne_7 : decode cX7_isOne 7 = .ok (.iconst 1, 1) := by decide +kernel
theorem dX7_isOne_8 : decode cX7_isOne 8 = .ok (.iaload, 1) := by decide +kernel
theorem dX7_isOne_9 : decode cX7_isOne 9 = .ok (.iconst 1, 1) := by decide +kernel
theorem dX7_isOne_10 : decode cX7_isOne 10 = .ok (.isub, 1) := by decide +kernel
theorem dX7_isOne_11 : decode cX7_isOne 11 = .ok (.i2l, 1) := by decide +kernel
theorem dX7_isOne_12 : decode cX7_isOne 12 = .ok (.invokestatic 51, 3) := by decide +kernel
theorem dX7_isOne_15 : decode cX7_isOne 15 = .ok (.ireturn, 1) := by decide +kernel
theorem dX7_isPlace_0 : decode cX7_isPlace 0 = .ok (.iload_n 1, 1) := by decide +kernel
theorem dX7_isPlace_1 : decode cX7_isPlace 1 = .ok (.i2l, 1) := by decide +kernel
theorem dX7_isPlace_2 : decode cX7_isPlace 2 = .ok (.lconst 0, 1) := by decide +kernel
theorem dX7_isPlace_3 : decode cX7_isPlace 3 = .ok (.aload_n 0, 1) := by decide +kernel
theorem dX7_isPlace_4 : decode cX7_isPlace 4 = .ok (.getfield 19, 3) := by decide +kernel
theorem dX7_isPlace_7 : decode cX7_isPlace 7 = .ok (.iconst 2, 1) := by decide +kernel
theorem dX7_isPlace_8 : decode cX7_isPlace 8 = .ok (.iaload, 1) := by decide +kernel
theorem dX7_isPlace_9 : decode cX7_isPlace 9 = .ok (.iconst 1, 1) := by decide +kernel
theorem dX7_isPlace_10 : decode cX7_isPlace 10 = .ok (.isub, 1) := by decide +kernel
theorem dX7_isPlace_11 : decode cX7_isPlace 11 = .ok (.i2l, 1) := by decide +kernel
theorem dX7_isPlace_12 : decode cX7_isPlace 12 = .ok (.invokestatic 51, 3) := by decide +kernel
theorem dX7_isPlace_15 : decode cX7_isPlace 15 = .ok (.ireturn, 1) := by decide +kernel
theorem dX7_isSide_0 : decode cX7_isSide 0 = .ok (.iload_n 0, 1) := by decide +kernel
theorem dX7_isSide_1 : decode cX7_isSide 1 = .ok (.i2l, 1) := by decide +kernel
theorem dX7_isSide_2 : decode cX7_isSide 2 = .ok (.lconst 0, 1) := by decide +kernel
theorem dX7_isSide_3 : decode cX7_isSide 3 = .ok (.lconst 1, 1) := by decide +kernel
theorem dX7_isSide_4 : decode cX7_isSide 4 = .ok (.invokestatic 51, 3) := by decide +kernel
theorem dX7_isSide_7 : decode cX7_isSide 7 = .ok (.ireturn, 1) := by decide +kernel
theorem dX7_kindOf_0 : decode cX7_kindOf 0 = .ok (.aload_n 0, 1) := by decide +kernel
theorem dX7_kindOf_1 : decode cX7_kindOf 1 = .ok (.getfield 19, 3) := by decide +kernel
theorem dX7_kindOf_4 : decode cX7_kindOf 4 = .ok (.iconst 3, 1) := by decide +kernel
theorem dX7_kindOf_5 : decode cX7_kindOf 5 = .ok (.iconst 2, 1) := by decide +kernel
theorem dX7_kindOf_6 : decode cX7_kindOf 6 = .ok (.iload_n 1, 1) := by decide +kernel
theorem dX7_kindOf_7 : decode cX7_kindOf 7 = .ok (.imul, 1) := by decide +kernel
theorem dX7_kindOf_8 : decode cX7_kindOf 8 = .ok (.iadd, 1) := by decide +kernel
theorem dX7_kindOf_9 : decode cX7_kindOf 9 = .ok (.iaload, 1) := by decide +kernel
theorem dX7_kindOf_10 : decode cX7_kindOf 10 = .ok (.ireturn, 1) := by decide +kernel
theorem dX7_cellsOf_0 : decode cX7_cellsOf 0 = .ok (.aload_n 0, 1) := by decide +kernel
theorem dX7_cellsOf_1 : decode cX7_cellsOf 1 = .ok (.getfield 19, 3) := by decide +kernel
theorem dX7_cellsOf_4 : decode cX7_cellsOf 4 = .ok (.iconst 3, 1) := by decide +kernel
theorem dX7_cellsOf_5 : decode cX7_cellsOf 5 = .ok (.iconst 2, 1) := by decide +kernel
theorem dX7_cellsOf_6 : decode cX7_cellsOf 6 = .ok (.iload_n 1, 1) := by decide +kernel
theorem dX7_cellsOf_7 : decode cX7_cellsOf 7 = .ok (.imul, 1) := by decide +kernel
theorem dX7_cellsOf_8 : decode cX7_cellsOf 8 = .ok (.iadd, 1) := by decide +kernel
theorem dX7_cellsOf_9 : decode cX7_cellsOf 9 = .ok (.iconst 1, 1) := by decide +kernel
theorem dX7_cellsOf_10 : decode cX7_cellsOf 10 = .ok (.iadd, 1) := by decide +kernel
theorem dX7_cellsOf_11 : decode cX7_cellsOf 11 = .ok (.iaload, 1) := by decide +kernel
theorem dX7_cellsOf_12 : decode cX7_cellsOf 12 = .ok (.ireturn, 1) := by decide +kernel
theorem dX7_on_0 : decode cX7_on 0 = .ok (.aload_n 0, 1) := by decide +kernel
theorem dX7_on_1 : decode cX7_on 1 = .ok (.getfield 19, 3) := by decide +kernel
theorem dX7_on_4 : decode cX7_on 4 = .ok (.bipush 19, 2) := by decide +kernel
theorem dX7_on_6 : decode cX7_on 6 = .ok (.bipush 9, 2) := by decide +kernel
theorem dX7_on_8 : decode cX7_on 8 = .ok (.iload_n 1, 1) := by decide +kernel
theorem dX7_on_9 : decode cX7_on 9 = .ok (.imul, 1) := by decide +kernel
theorem dX7_on_10 : decode cX7_on 10 = .ok (.iadd, 1) := by decide +kernel
theorem dX7_on_11 : decode cX7_on 11 = .ok (.iload_n 2, 1) := by decide +kernel
theorem dX7_on_12 : decode cX7_on 12 = .ok (.iadd, 1) := by decide +kernel
theorem dX7_on_13 : decode cX7_on 13 = .ok (.iaload, 1) := by decide +kernel
theorem dX7_on_14 : decode cX7_on 14 = .ok (.ireturn, 1) := by decide +kernel
theorem dX7_behindOf_0 : decode cX7_behindOf 0 = .ok (.aload_n 0, 1) := by decide +kernel
theorem dX7_behindOf_1 : decode cX7_behindOf 1 = .ok (.iconst 1, 1) := by decide +kernel
theorem dX7_behindOf_2 : decode cX7_behindOf 2 = .ok (.iload_n 1, 1) := by decide +kernel
theorem dX7_behindOf_3 : decode cX7_behindOf 3 = .ok (.isub, 1) := by decide +kernel
theorem dX7_behindOf_4 : decode cX7_behindOf 4 = .ok (.aload_n 0, 1) := by decide +kernel
theorem dX7_behindOf_5 : decode cX7_behindOf 5 = .ok (.getfield 19, 3) := by decide +kernel
theorem dX7_behindOf_8 : decode cX7_behindOf 8 = .ok (.iconst 2, 1) := by decide +kernel
theorem dX7_behindOf_9 : decode cX7_behindOf 9 = .ok (.iaload, 1) := by decide +kernel
theorem dX7_behindOf_10 : decode cX7_behindOf 10 = .ok (.iconst 1, 1) := by decide +kernel
theorem dX7_behindOf_11 : decode cX7_behindOf 11 = .ok (.isub, 1) := by decide +kernel
theorem dX7_behindOf_12 : decode cX7_behindOf 12 = .ok (.iload_n 2, 1) := by decide +kernel
theorem dX7_behindOf_13 : decode cX7_behindOf 13 = .ok (.isub, 1) := by decide +kernel
theorem dX7_behindOf_14 : decode cX7_behindOf 14 = .ok (.invokevirtual 170, 3) := by decide +kernel
theorem dX7_behindOf_17 : decode cX7_behindOf 17 = .ok (.ireturn, 1) := by decide +kernel
theorem dX7_bits_0 : decode cX7_bits 0 = .ok (.iconst 0, 1) := by decide +kernel
theorem dX7_bits_1 : decode cX7_bits 1 = .ok (.istore_n 1, 1) := by decide +kernel
theorem dX7_bits_2 : decode cX7_bits 2 = .ok (.iconst 0, 1) := by decide +kernel
theorem dX7_bits_3 : decode cX7_bits 3 = .ok (.istore_n 2, 1) := by decide +kernel
theorem dX7_bits_4 : decode cX7_bits 4 = .ok (.iload_n 2, 1) := by decide +kernel
theorem dX7_bits_5 : decode cX7_bits 5 = .ok (.bipush 9, 2) := by decide +kernel
theorem dX7_bits_7 : decode cX7_bits 7 = .ok (.if_icmp .ge 17, 3) := by decide +kernel
theorem dX7_bits_10 : decode cX7_bits 10 = .ok (.iload_n 1, 1) := by decide +kernel
theorem dX7_bits_11 : decode cX7_bits 11 = .ok (.iload_n 0, 1) := by decide +kernel
theorem dX7_bits_12 : decode cX7_bits 12 = .ok (.iload_n 2, 1) := by decide +kernel
theorem dX7_bits_13 : decode cX7_bits 13 = .ok (.ishr, 1) := by decide +kernel
theorem dX7_bits_14 : decode cX7_bits 14 = .ok (.iconst 1, 1) := by decide +kernel
theorem dX7_bits_15 : decode cX7_bits 15 = .ok (.iand, 1) := by decide +kernel
theorem dX7_bits_16 : decode cX7_bits 16 = .ok (.iadd, 1) := by decide +kernel
theorem dX7_bits_17 : decode cX7_bits 17 = .ok (.istore_n 1, 1) := by decide +kernel
theorem dX7_bits_18 : decode cX7_bits 18 = .ok (.iinc 2 1, 3) := by decide +kernel
theorem dX7_bits_21 : decode cX7_bits 21 = .ok (.goto (-17), 3) := by decide +kernel
theorem dX7_bits_24 : decode cX7_bits 24 = .ok (.iload_n 1, 1) := by decide +kernel
theorem dX7_bits_25 : decode cX7_bits 25 = .ok (.ireturn, 1) := by decide +kernel
theorem dX7_turned_0 : decode cX7_turned 0 = .ok (.iload_n 0, 1) := by decide +kernel
theorem dX7_turned_1 : decode cX7_turned 1 = .ok (.bipush 73, 2) := by decide +kernel
theorem dX7_turned_3 : decode cX7_turned 3 = .ok (.iand, 1) := by decide +kernel
theorem dX7_turned_4 : decode cX7_turned 4 = .ok (.iconst 2, 1) := by decide +kernel
theorem dX7_turned_5 : decode cX7_turned 5 = .ok (.ishl, 1) := by decide +kernel
theorem dX7_turned_6 : decode cX7_turned 6 = .ok (.iload_n 0, 1) := by decide +kernel
theorem dX7_turned_7 : decode cX7_turned 7 = .ok (.sipush 146, 3) := by decide +kernel
theorem dX7_turned_10 : decode cX7_turned 10 = .ok (.iand, 1) := by decide +kernel
theorem dX7_turned_11 : decode cX7_turned 11 = .ok (.ior, 1) := by decide +kernel
theorem dX7_turned_12 : decode cX7_turned 12 = .ok (.iload_n 0, 1) := by decide +kernel
theorem dX7_turned_13 : decode cX7_turned 13 = .ok (.sipush 292, 3) := by decide +kernel
theorem dX7_turned_16 : decode cX7_turned 16 = .ok (.iand, 1) := by decide +kernel
theorem dX7_turned_17 : decode cX7_turned 17 = .ok (.iconst 2, 1) := by decide +kernel
theorem dX7_turned_18 : decode cX7_turned 18 = .ok (.ishr, 1) := by decide +kernel
theorem dX7_turned_19 : decode cX7_turned 19 = .ok (.ior, 1) := by decide +kernel
theorem dX7_turned_20 : decode cX7_turned 20 = .ok (.ireturn, 1) := by decide +kernel
theorem dX7_throughOf_0 : decode cX7_throughOf 0 = .ok (.aload_n 0, 1) := by decide +kernel
theorem dX7_throughOf_1 : decode cX7_throughOf 1 = .ok (.iload_n 1, 1) := by decide +kernel
theorem dX7_throughOf_2 : decode cX7_throughOf 2 = .ok (.invokevirtual 173, 3) := by decide +kernel
theorem dX7_throughOf_5 : decode cX7_throughOf 5 = .ok (.tableswitch 47 3 5 #[33, 27, 45], 27) := by decide +kernel
theorem dX7_throughOf_32 : decode cX7_throughOf 32 = .ok (.aload_n 0, 1) := by decide +kernel
theorem dX7_throughOf_33 : decode cX7_throughOf 33 = .ok (.iload_n 1, 1) := by decide +kernel
theorem dX7_throughOf_34 : decode cX7_throughOf 34 = .ok (.invokevirtual 176, 3) := by decide +kernel
theorem dX7_throughOf_37 : decode cX7_throughOf 37 = .ok (.ireturn, 1) := by decide +kernel
theorem dX7_throughOf_38 : decode cX7_throughOf 38 = .ok (.aload_n 0, 1) := by decide +kernel
theorem dX7_throughOf_39 : decode cX7_throughOf 39 = .ok (.iload_n 1, 1) := by decide +kernel
theorem dX7_throughOf_40 : decode cX7_throughOf 40 = .ok (.invokevirtual 176, 3) := by decide +kernel
theorem dX7_throughOf_43 : decode cX7_throughOf 43 = .ok (.invokestatic 179, 3) := by decide +kernel
theorem dX7_throughOf_46 : decode cX7_throughOf 46 = .ok (.bipush 63, 2) := by decide +kernel
theorem dX7_throughOf_48 : decode cX7_throughOf 48 = .ok (.iand, 1) := by decide +kernel
theorem dX7_throughOf_49 : decode cX7_throughOf 49 = .ok (.ireturn, 1) := by decide +kernel
theorem dX7_throughOf_50 : decode cX7_throughOf 50 = .ok (.iconst 0, 1) := by decide +kernel
theorem dX7_throughOf_51 : decode cX7_throughOf 51 = .ok (.ireturn, 1) := by decide +kernel
theorem dX7_throughOf_52 : decode cX7_throughOf 52 = .ok (.aload_n 0, 1) := by decide +kernel
theorem dX7_throughOf_53 : decode cX7_throughOf 53 = .ok (.iload_n 1, 1) := by decide +kernel
theorem dX7_throughOf_54 : decode cX7_throughOf 54 = .ok (.invokevirtual 176, 3) := by decide +kernel
theorem dX7_throughOf_57 : decode cX7_throughOf 57 = .ok (.invokestatic 179, 3) := by decide +kernel
theorem dX7_throughOf_60 : decode cX7_throughOf 60 = .ok (.ireturn, 1) := by decide +kernel
theorem dX7_readOf_0 : decode cX7_readOf 0 = .ok (.iconst 0, 1) := by decide +kernel
theorem dX7_readOf_1 : decode cX7_readOf 1 = .ok (.istore_n 2, 1) := by decide +kernel
theorem dX7_readOf_2 : decode cX7_readOf 2 = .ok (.aload_n 0, 1) := by decide +kernel
theorem dX7_readOf_3 : decode cX7_readOf 3 = .ok (.bipush 10, 2) := by decide +kernel
theorem dX7_readOf_5 : decode cX7_readOf 5 = .ok (.putfield 182, 3) := by decide +kernel
theorem dX7_readOf_8 : decode cX7_readOf 8 = .ok (.iconst 0, 1) := by decide +kernel
theorem dX7_readOf_9 : decode cX7_readOf 9 = .ok (.istore_n 3, 1) := by decide +kernel
theorem dX7_readOf_10 : decode cX7_readOf 10 = .ok (.iload_n 3, 1) := by decide +kernel
theorem dX7_readOf_11 : decode cX7_readOf 11 = .ok (.aload_n 0, 1) := by decide +kernel
theorem dX7_readOf_12 : decode cX7_readOf 12 = .ok (.getfield 19, 3) := by decide +kernel
theorem dX7_readOf_15 : decode cX7_readOf 15 = .ok (.iconst 1, 1) := by decide +kernel
theorem dX7_readOf_16 : decode cX7_readOf 16 = .ok (.iaload, 1) := by decide +kernel
theorem dX7_readOf_17 : decode cX7_readOf 17 = .ok (.if_icmp .ge 97, 3) := by decide +kernel
theorem dX7_readOf_20 : decode cX7_readOf 20 = .ok (.aload_n 0, 1) := by decide +kernel
theorem dX7_readOf_21 : decode cX7_readOf 21 = .ok (.iload_n 3, 1) := by decide +kernel
theorem dX7_readOf_22 : decode cX7_readOf 22 = .ok (.invokevirtual 176, 3) := by decide +kernel
theorem dX7_readOf_25 : decode cX7_readOf 25 = .ok (.iload_n 1, 1) := by decide +kernel
theorem dX7_readOf_26 : decode cX7_readOf 26 = .ok (.ixor, 1) := by decide +kernel
theorem dX7_readOf_27 : decode cX7_readOf 27 = .ok (.invokestatic 185, 3) := by decide +kernel
theorem dX7_readOf_30 : decode cX7_readOf 30 = .ok (.istore 4, 2) := by decide +kernel
theorem dX7_readOf_32 : decode cX7_readOf 32 = .ok (.aload_n 0, 1) := by decide +kernel
theorem dX7_readOf_33 : decode cX7_readOf 33 = .ok (.iload 4, 2) := by decide +kernel
theorem dX7_readOf_35 : decode cX7_readOf 35 = .ok (.aload_n 0, 1) := by decide +kernel
theorem dX7_readOf_36 : decode cX7_readOf 36 = .ok (.getfield 182, 3) := by decide +kernel
theorem dX7_readOf_39 : decode cX7_readOf 39 = .ok (.if_icmp .ge 7, 3) := by decide +kernel
theorem dX7_readOf_42 : decode cX7_readOf 42 = .ok (.iconst 1, 1) := by decide +kernel
theorem dX7_readOf_43 : decode cX7_readOf 43 = .ok (.goto 25, 3) := by decide +kernel
theorem dX7_readOf_46 : decode cX7_readOf 46 = .ok (.iload 4, 2) := by decide +kernel
theorem dX7_readOf_48 : decode cX7_readOf 48 = .ok (.aload_n 0, 1) := by decide +kernel
theorem dX7_readOf_49 : decode cX7_readOf 49 = .ok (.getfield 182, 3) := by decide +kernel
theorem dX7_readOf_52 : decode cX7_readOf 52 = .ok (.if_icmp .ne 12, 3) := by decide +kernel
theorem dX7_readOf_55 : decode cX7_readOf 55 = .ok (.aload_n 0, 1) := by decide +kernel
theorem dX7_readOf_56 : decode cX7_readOf 56 = .ok (.getfield 188, 3) := by decide +kernel
theorem dX7_readOf_59 : decode cX7_readOf 59 = .ok (.iconst 1, 1) := by decide +kernel
theorem dX7_readOf_60 : decode cX7_readOf 60 = .ok (.iadd, 1) := by decide +kernel
theorem dX7_readOf_61 : decode cX7_readOf 61 = .ok (.goto 7, 3) := by decide +kernel
theorem dX7_readOf_64 : decode cX7_readOf 64 = .ok (.aload_n 0, 1) := by decide +kernel
theorem dX7_readOf_65 : decode cX7_readOf 65 = .ok (.getfield 188, 3) := by decide +kernel
theorem dX7_readOf_68 : decode cX7_readOf 68 = .ok (.putfield 188, 3) := by decide +kernel
theorem dX7_readOf_71 : decode cX7_readOf 71 = .ok (.iload 4, 2) := by decide +kernel
theorem dX7_readOf_73 : decode cX7_readOf 73 = .ok (.aload_n 0, 1) := by decide +kernel
theorem dX7_readOf_74 : decode cX7_readOf 74 = .ok (.getfield 182, 3) := by decide +kernel
theorem dX7_readOf_77 : decode cX7_readOf 77 = .ok (.if_icmp .ge 7, 3) := by decide +kernel
theorem dX7_readOf_80 : decode cX7_readOf 80 = .ok (.iload_n 3, 1) := by decide +kernel
theorem dX7_readOf_81 : decode cX7_readOf 81 = .ok (.goto 4, 3) := by decide +kernel
theorem dX7_readOf_84 : decode cX7_readOf 84 = .ok (.iload_n 2, 1) := by decide +kernel
theorem dX7_readOf_85 : decode cX7_readOf 85 = .ok (.istore_n 2, 1) := by decide +kernel
theorem dX7_readOf_86 : decode cX7_readOf 86 = .ok (.aload_n 0, 1) := by decide +kernel
theorem dX7_readOf_87 : decode cX7_readOf 87 = .ok (.iload 4, 2) := by decide +kernel
theorem dX7_readOf_89 : decode cX7_readOf 89 = .ok (.aload_n 0, 1) := by decide +kernel
theorem dX7_readOf_90 : decode cX7_readOf 90 = .ok (.getfield 182, 3) := by decide +kernel
theorem dX7_readOf_93 : decode cX7_readOf 93 = .ok (.if_icmp .ge 8, 3) := by decide +kernel
theorem dX7_readOf_96 : decode cX7_readOf 96 = .ok (.iload 4, 2) := by decide +kernel
theorem dX7_readOf_98 : decode cX7_readOf 98 = .ok (.goto 7, 3) := by decide +kernel
theorem dX7_readOf_101 : decode cX7_readOf 101 = .ok (.aload_n 0, 1) := by decide +kernel
theorem dX7_readOf_102 : decode cX7_readOf 102 = .ok (.getfield 182, 3) := by decide +kernel
theorem dX7_readOf_105 : decode cX7_readOf 105 = .ok (.putfield 182, 3) := by decide +kernel
theorem dX7_readOf_108 : decode cX7_readOf 108 = .ok (.iinc 3 1, 3) := by decide +kernel
theorem dX7_readOf_111 : decode cX7_readOf 111 = .ok (.goto (-101), 3) := by decide +kernel
theorem dX7_readOf_114 : decode cX7_readOf 114 = .ok (.iload_n 2, 1) := by decide +kernel
theorem dX7_readOf_115 : decode cX7_readOf 115 = .ok (.ireturn, 1) := by decide +kernel
theorem dX7_readBy_0 : decode cX7_readBy 0 = .ok (.aload_n 0, 1) := by decide +kernel
theorem dX7_readBy_1 : decode cX7_readBy 1 = .ok (.aload_n 0, 1) := by decide +kernel
theorem dX7_readBy_2 : decode cX7_readBy 2 = .ok (.iload_n 1, 1) := by decide +kernel
theorem dX7_readBy_3 : decode cX7_readBy 3 = .ok (.invokevirtual 176, 3) := by decide +kernel
theorem dX7_readBy_6 : decode cX7_readBy 6 = .ok (.aload_n 0, 1) := by decide +kernel
theorem dX7_readBy_7 : decode cX7_readBy 7 = .ok (.iload_n 2, 1) := by decide +kernel
theorem dX7_readBy_8 : decode cX7_readBy 8 = .ok (.invokevirtual 191, 3) := by decide +kernel
theorem dX7_readBy_11 : decode cX7_readBy 11 = .ok (.ior, 1) := by decide +kernel
theorem dX7_readBy_12 : decode cX7_readBy 12 = .ok (.invokevirtual 194, 3) := by decide +kernel
theorem dX7_readBy_15 : decode cX7_readBy 15 = .ok (.ireturn, 1) := by decide +kernel
theorem dX7_keep_0 : decode cX7_keep 0 = .ok (.aload_n 0, 1) := by decide +kernel
theorem dX7_keep_1 : decode cX7_keep 1 = .ok (.getfield 167, 3) := by decide +kernel
theorem dX7_keep_4 : decode cX7_keep 4 = .ok (.bipush 24, 2) := by decide +kernel
theorem dX7_keep_6 : decode cX7_keep 6 = .ok (.if_icmp .ne 43, 3) := by decide +kernel
theorem dX7_keep_9 : decode cX7_keep 9 = .ok (.iconst 0, 1) := by decide +kernel
theorem dX7_keep_10 : decode cX7_keep 10 = .ok (.istore_n 1, 1) := by decide +kernel
theorem dX7_keep_11 : decode cX7_keep 11 = .ok (.iload_n 1, 1) := by decide +kernel
theorem dX7_keep_12 : decode cX7_keep 12 = .ok (.sipush 851, 3) := by decide +kernel
theorem dX7_keep_15 : decode cX7_keep 15 = .ok (.if_icmp .ge 24, 3) := by decide +kernel
theorem dX7_keep_18 : decode cX7_keep 18 = .ok (.aload_n 0, 1) := by decide +kernel
theorem dX7_keep_19 : decode cX7_keep 19 = .ok (.getfield 25, 3) := by decide +kernel
theorem dX7_keep_22 : decode cX7_keep 22 = .ok (.iload_n 1, 1) := by decide +kernel
theorem dX7_keep_23 : decode cX7_keep 23 = .ok (.aload_n 0, 1) := by decide +kernel
theorem dX7_keep_24 : decode cX7_keep 24 = .ok (.getfield 25, 3) := by decide +kernel
theorem dX7_keep_27 : decode cX7_keep 27 = .ok (.iload_n 1, 1) := by decide +kernel
theorem dX7_keep_28 : decode cX7_keep 28 = .ok (.bipush 37, 2) := by decide +kernel
theorem dX7_keep_30 : decode cX7_keep 30 = .ok (.iadd, 1) := by decide +kernel
theorem dX7_keep_31 : decode cX7_keep 31 = .ok (.iaload, 1) := by decide +kernel
theorem dX7_keep_32 : decode cX7_keep 32 = .ok (.iastore, 1) := by decide +kernel
theorem dX7_keep_33 : decode cX7_keep 33 = .ok (.iinc 1 1, 3) := by decide +kernel
theorem dX7_keep_36 : decode cX7_keep 36 = .ok (.goto (-25), 3) := by decide +kernel
theorem dX7_keep_39 : decode cX7_keep 39 = .ok (.aload_n 0, 1) := by decide +kernel
theorem dX7_keep_40 : decode cX7_keep 40 = .ok (.dup, 1) := by decide +kernel
theorem dX7_keep_41 : decode cX7_keep 41 = .ok (.getfield 167, 3) := by decide +kernel
theorem dX7_keep_44 : decode cX7_keep 44 = .ok (.iconst 1, 1) := by decide +kernel
theorem dX7_keep_45 : decode cX7_keep 45 = .ok (.isub, 1) := by decide +kernel
theorem dX7_keep_46 : decode cX7_keep 46 = .ok (.putfield 167, 3) := by decide +kernel
theorem dX7_keep_49 : decode cX7_keep 49 = .ok (.iconst 0, 1) := by decide +kernel
theorem dX7_keep_50 : decode cX7_keep 50 = .ok (.istore_n 1, 1) := by decide +kernel
theorem dX7_keep_51 : decode cX7_keep 51 = .ok (.iload_n 1, 1) := by decide +kernel
theorem dX7_keep_52 : decode cX7_keep 52 = .ok (.bipush 37, 2) := by decide +kernel
theorem dX7_keep_54 : decode cX7_keep 54 = .ok (.if_icmp .ge 29, 3) := by decide +kernel
theorem dX7_keep_57 : decode cX7_keep 57 = .ok (.aload_n 0, 1) := by decide +kernel
theorem dX7_keep_58 : decode cX7_keep 58 = .ok (.getfield 25, 3) := by decide +kernel
theorem dX7_keep_61 : decode cX7_keep 61 = .ok (.bipush 37, 2) := by decide +kernel
theorem dX7_keep_63 : decode cX7_keep 63 = .ok (.aload_n 0, 1) := by decide +kernel
theorem dX7_keep_64 : decode cX7_keep 64 = .ok (.getfield 167, 3) := by decide +kernel
theorem dX7_keep_67 : decode cX7_keep 67 = .ok (.imul, 1) := by decide +kernel
theorem dX7_keep_68 : decode cX7_keep 68 = .ok (.iload_n 1, 1) := by decide +kernel
theorem dX7_keep_69 : decode cX7_keep 69 = .ok (.iadd, 1) := by decide +kernel
theorem dX7_keep_70 : decode cX7_keep 70 = .ok (.aload_n 0, 1) := by decide +kernel
theorem dX7_keep_71 : decode cX7_keep 71 = .ok (.getfield 19, 3) := by decide +kernel
theorem dX7_keep_74 : decode cX7_keep 74 = .ok (.iload_n 1, 1) := by decide +kernel
theorem dX7_keep_75 : decode cX7_keep 75 = .ok (.iaload, 1) := by decide +kernel
theorem dX7_keep_76 : decode cX7_keep 76 = .ok (.iastore, 1) := by decide +kernel
theorem dX7_keep_77 : decode cX7_keep 77 = .ok (.iinc 1 1, 3) := by decide +kernel
theorem dX7_keep_80 : decode cX7_keep 80 = .ok (.goto (-29), 3) := by decide +kernel
theorem dX7_keep_83 : decode cX7_keep 83 = .ok (.aload_n 0, 1) := by decide +kernel
theorem dX7_keep_84 : decode cX7_keep 84 = .ok (.dup, 1) := by decide +kernel
theorem dX7_keep_85 : decode cX7_keep 85 = .ok (.getfield 167, 3) := by decide +kernel
theorem dX7_keep_88 : decode cX7_keep 88 = .ok (.iconst 1, 1) := by decide +kernel
theorem dX7_keep_89 : decode cX7_keep 89 = .ok (.iadd, 1) := by decide +kernel
theorem dX7_keep_90 : decode cX7_keep 90 = .ok (.putfield 167, 3) := by decide +kernel
theorem dX7_keep_93 : decode cX7_keep 93 = .ok (.return_, 1) := by decide +kernel
theorem dX7_write_0 : decode cX7_write 0 = .ok (.aload_n 0, 1) := by decide +kernel
theorem dX7_write_1 : decode cX7_write 1 = .ok (.iconst 0, 1) := by decide +kernel
theorem dX7_write_2 : decode cX7_write 2 = .ok (.putfield 41, 3) := by decide +kernel
theorem dX7_write_5 : decode cX7_write 5 = .ok (.iload_n 1, 1) := by decide +kernel
theorem dX7_write_6 : decode cX7_write 6 = .ok (.invokestatic 197, 3) := by decide +kernel
theorem dX7_write_9 : decode cX7_write 9 = .ok (.ifCond .eq 19, 3) := by decide +kernel
theorem dX7_write_12 : decode cX7_write 12 = .ok (.aload_n 0, 1) := by decide +kernel
theorem dX7_write_13 : decode cX7_write 13 = .ok (.iload_n 2, 1) := by decide +kernel
theorem dX7_write_14 : decode cX7_write 14 = .ok (.invokevirtual 200, 3) := by decide +kernel
theorem dX7_write_17 : decode cX7_write 17 = .ok (.ifCond .eq 11, 3) := by decide +kernel
theorem dX7_write_20 : decode cX7_write 20 = .ok (.aload_n 0, 1) := by decide +kernel
theorem dX7_write_21 : decode cX7_write 21 = .ok (.iload_n 3, 1) := by decide +kernel
theorem dX7_write_22 : decode cX7_write 22 = .ok (.invokevirtual 203, 3) := by decide +kernel
theorem dX7_write_25 : decode cX7_write 25 = .ok (.ifCond .ne 6, 3) := by decide +kernel
theorem dX7_write_28 : decode cX7_write 28 = .ok (.ldc 61, 2) := by decide +kernel
theorem dX7_write_30 : decode cX7_write 30 = .ok (.ireturn, 1) := by decide +kernel
theorem dX7_write_31 : decode cX7_write 31 = .ok (.aload_n 0, 1) := by decide +kernel
theorem dX7_write_32 : decode cX7_write 32 = .ok (.invokevirtual 206, 3) := by decide +kernel
theorem dX7_write_35 : decode cX7_write 35 = .ok (.aload_n 0, 1) := by decide +kernel
theorem dX7_write_36 : decode cX7_write 36 = .ok (.iload_n 1, 1) := by decide +kernel
theorem dX7_write_37 : decode cX7_write 37 = .ok (.iload_n 2, 1) := by decide +kernel
theorem dX7_write_38 : decode cX7_write 38 = .ok (.invokevirtual 170, 3) := by decide +kernel
theorem dX7_write_41 : decode cX7_write 41 = .ok (.istore 4, 2) := by decide +kernel
theorem dX7_write_43 : decode cX7_write 43 = .ok (.aload_n 0, 1) := by decide +kernel
theorem dX7_write_44 : decode cX7_write 44 = .ok (.getfield 19, 3) := by decide +kernel
theorem dX7_write_47 : decode cX7_write 47 = .ok (.bipush 19, 2) := by decide +kernel
theorem dX7_write_49 : decode cX7_write 49 = .ok (.bipush 9, 2) := by decide +kernel
theorem dX7_write_51 : decode cX7_write 51 = .ok (.iload_n 1, 1) := by decide +kernel
theorem dX7_write_52 : decode cX7_write 52 = .ok (.imul, 1) := by decide +kernel
theorem dX7_write_53 : decode cX7_write 53 = .ok (.iadd, 1) := by decide +kernel
theorem dX7_write_54 : decode cX7_write 54 = .ok (.iload_n 2, 1) := by decide +kernel
theorem dX7_write_55 : decode cX7_write 55 = .ok (.iadd, 1) := by decide +kernel
theorem dX7_write_56 : decode cX7_write 56 = .ok (.iload_n 3, 1) := by decide +kernel
theorem dX7_write_57 : decode cX7_write 57 = .ok (.iastore, 1) := by decide +kernel
theorem dX7_write_58 : decode cX7_write 58 = .ok (.iload 4, 2) := by decide +kernel
theorem dX7_write_60 : decode cX7_write 60 = .ok (.ireturn, 1) := by decide +kernel
theorem dX7_turn_0 : decode cX7_turn 0 = .ok (.aload_n 0, 1) := by decide +kernel
theorem dX7_turn_1 : decode cX7_turn 1 = .ok (.iconst 0, 1) := by decide +kernel
theorem dX7_turn_2 : decode cX7_turn 2 = .ok (.putfield 41, 3) := by decide +kernel
theorem dX7_turn_5 : decode cX7_turn 5 = .ok (.aload_n 0, 1) := by decide +kernel
theorem dX7_turn_6 : decode cX7_turn 6 = .ok (.invokevirtual 209, 3) := by decide +kernel
theorem dX7_turn_9 : decode cX7_turn 9 = .ok (.ifCond .ne 6, 3) := by decide +kernel
theorem dX7_turn_12 : decode cX7_turn 12 = .ok (.ldc 213, 2) := by decide +kernel
theorem dX7_turn_14 : decode cX7_turn 14 = .ok (.ireturn, 1) := by decide +kernel
theorem dX7_turn_15 : decode cX7_turn 15 = .ok (.aload_n 0, 1) := by decide +kernel
theorem dX7_turn_16 : decode cX7_turn 16 = .ok (.invokevirtual 206, 3) := by decide +kernel
theorem dX7_turn_19 : decode cX7_turn 19 = .ok (.iconst 0, 1) := by decide +kernel
theorem dX7_turn_20 : decode cX7_turn 20 = .ok (.istore_n 1, 1) := by decide +kernel
theorem dX7_turn_21 : decode cX7_turn 21 = .ok (.iload_n 1, 1) := by decide +kernel
theorem dX7_turn_22 : decode cX7_turn 22 = .ok (.bipush 9, 2) := by decide +kernel
theorem dX7_turn_24 : decode cX7_turn 24 = .ok (.if_icmp .ge 47, 3) := by decide +kernel
theorem dX7_turn_27 : decode cX7_turn 27 = .ok (.aload_n 0, 1) := by decide +kernel
theorem dX7_turn_28 : decode cX7_turn 28 = .ok (.getfield 19, 3) := by decide +kernel
theorem dX7_turn_31 : decode cX7_turn 31 = .ok (.bipush 19, 2) := by decide +kernel
theorem dX7_turn_33 : decode cX7_turn 33 = .ok (.iload_n 1, 1) := by decide +kernel
theorem dX7_turn_34 : decode cX7_turn 34 = .ok (.iadd, 1) := by decide +kernel
theorem dX7_turn_35 : decode cX7_turn 35 = .ok (.iaload, 1) := by decide +kernel
theorem dX7_turn_36 : decode cX7_turn 36 = .ok (.istore_n 2, 1) := by decide +kernel
theorem dX7_turn_37 : decode cX7_turn 37 = .ok (.aload_n 0, 1) := by decide +kernel
theorem dX7_turn_38 : decode cX7_turn 38 = .ok (.getfield 19, 3) := by decide +kernel
theorem dX7_turn_41 : decode cX7_turn 41 = .ok (.bipush 19, 2) := by decide +kernel
theorem dX7_turn_43 : decode cX7_turn 43 = .ok (.iload_n 1, 1) := by decide +kernel
theorem dX7_turn_44 : decode cX7_turn 44 = .ok (.iadd, 1) := by decide +kernel
theorem dX7_turn_45 : decode cX7_turn 45 = .ok (.aload_n 0, 1) := by decide +kernel
theorem dX7_turn_46 : decode cX7_turn 46 = .ok (.getfield 19, 3) := by decide +kernel
theorem dX7_turn_49 : decode cX7_turn 49 = .ok (.bipush 28, 2) := by decide +kernel
theorem dX7_turn_51 : decode cX7_turn 51 = .ok (.iload_n 1, 1) := by decide +kernel
theorem dX7_turn_52 : decode cX7_turn 52 = .ok (.iadd, 1) := by decide +kernel
theorem dX7_turn_53 : decode cX7_turn 53 = .ok (.iaload, 1) := by decide +kernel
theorem dX7_turn_54 : decode cX7_turn 54 = .ok (.iastore, 1) := by decide +kernel
theorem dX7_turn_55 : decode cX7_turn 55 = .ok (.aload_n 0, 1) := by decide +kernel
theorem dX7_turn_56 : decode cX7_turn 56 = .ok (.getfield 19, 3) := by decide +kernel
theorem dX7_turn_59 : decode cX7_turn 59 = .ok (.bipush 28, 2) := by decide +kernel
theorem dX7_turn_61 : decode cX7_turn 61 = .ok (.iload_n 1, 1) := by decide +kernel
theorem dX7_turn_62 : decode cX7_turn 62 = .ok (.iadd, 1) := by decide +kernel
theorem dX7_turn_63 : decode cX7_turn 63 = .ok (.iload_n 2, 1) := by decide +kernel
theorem dX7_turn_64 : decode cX7_turn 64 = .ok (.iastore, 1) := by decide +kernel
theorem dX7_turn_65 : decode cX7_turn 65 = .ok (.iinc 1 1, 3) := by decide +kernel
theorem dX7_turn_68 : decode cX7_turn 68 = .ok (.goto (-47), 3) := by decide +kernel
theorem dX7_turn_71 : decode cX7_turn 71 = .ok (.aload_n 0, 1) := by decide +kernel
theorem dX7_turn_72 : decode cX7_turn 72 = .ok (.getfield 19, 3) := by decide +kernel
theorem dX7_turn_75 : decode cX7_turn 75 = .ok (.iconst 2, 1) := by decide +kernel
theorem dX7_turn_76 : decode cX7_turn 76 = .ok (.iaload, 1) := by decide +kernel
theorem dX7_turn_77 : decode cX7_turn 77 = .ok (.ireturn, 1) := by decide +kernel
theorem dX7_undo_0 : decode cX7_undo 0 = .ok (.aload_n 0, 1) := by decide +kernel
theorem dX7_undo_1 : decode cX7_undo 1 = .ok (.iconst 0, 1) := by decide +kernel
theorem dX7_undo_2 : decode cX7_undo 2 = .ok (.putfield 41, 3) := by decide +kernel
theorem dX7_undo_5 : decode cX7_undo 5 = .ok (.aload_n 0, 1) := by decide +kernel
theorem dX7_undo_6 : decode cX7_undo 6 = .ok (.getfield 167, 3) := by decide +kernel
theorem dX7_undo_9 : decode cX7_undo 9 = .ok (.ifCond .ne 6, 3) := by decide +kernel
theorem dX7_undo_12 : decode cX7_undo 12 = .ok (.ldc 213, 2) := by decide +kernel
theorem dX7_undo_14 : decode cX7_undo 14 = .ok (.ireturn, 1) := by decide +kernel
theorem dX7_undo_15 : decode cX7_undo 15 = .ok (.aload_n 0, 1) := by decide +kernel
theorem dX7_undo_16 : decode cX7_undo 16 = .ok (.dup, 1) := by decide +kernel
theorem dX7_undo_17 : decode cX7_undo 17 = .ok (.getfield 167, 3) := by decide +kernel
theorem dX7_undo_20 : decode cX7_undo 20 = .ok (.iconst 1, 1) := by decide +kernel
theorem dX7_undo_21 : decode cX7_undo 21 = .ok (.isub, 1) := by decide +kernel
theorem dX7_undo_22 : decode cX7_undo 22 = .ok (.putfield 167, 3) := by decide +kernel
theorem dX7_undo_25 : decode cX7_undo 25 = .ok (.iconst 0, 1) := by decide +kernel
theorem dX7_undo_26 : decode cX7_undo 26 = .ok (.istore_n 1, 1) := by decide +kernel
theorem dX7_undo_27 : decode cX7_undo 27 = .ok (.iload_n 1, 1) := by decide +kernel
theorem dX7_undo_28 : decode cX7_undo 28 = .ok (.bipush 37, 2) := by decide +kernel
theorem dX7_undo_30 : decode cX7_undo 30 = .ok (.if_icmp .ge 29, 3) := by decide +kernel
theorem dX7_undo_33 : decode cX7_undo 33 = .ok (.aload_n 0, 1) := by decide +kernel
theorem dX7_undo_34 : decode cX7_undo 34 = .ok (.getfield 19, 3) := by decide +kernel
theorem dX7_undo_37 : decode cX7_undo 37 = .ok (.iload_n 1, 1) := by decide +kernel
theorem dX7_undo_38 : decode cX7_undo 38 = .ok (.aload_n 0, 1) := by decide +kernel
theorem dX7_undo_39 : decode cX7_undo 39 = .ok (.getfield 25, 3) := by decide +kernel
theorem dX7_undo_42 : decode cX7_undo 42 = .ok (.bipush 37, 2) := by decide +kernel
theorem dX7_undo_44 : decode cX7_undo 44 = .ok (.aload_n 0, 1) := by decide +kernel
theorem dX7_undo_45 : decode cX7_undo 45 = .ok (.getfield 167, 3) := by decide +kernel
theorem dX7_undo_48 : decode cX7_undo 48 = .ok (.imul, 1) := by decide +kernel
theorem dX7_undo_49 : decode cX7_undo 49 = .ok (.iload_n 1, 1) := by decide +kernel
theorem dX7_undo_50 : decode cX7_undo 50 = .ok (.iadd, 1) := by decide +kernel
theorem dX7_undo_51 : decode cX7_undo 51 = .ok (.iaload, 1) := by decide +kernel
theorem dX7_undo_52 : decode cX7_undo 52 = .ok (.iastore, 1) := by decide +kernel
theorem dX7_undo_53 : decode cX7_undo 53 = .ok (.iinc 1 1, 3) := by decide +kernel
theorem dX7_undo_56 : decode cX7_undo 56 = .ok (.goto (-29), 3) := by decide +kernel
theorem dX7_undo_59 : decode cX7_undo 59 = .ok (.aload_n 0, 1) := by decide +kernel
theorem dX7_undo_60 : decode cX7_undo 60 = .ok (.getfield 167, 3) := by decide +kernel
theorem dX7_undo_63 : decode cX7_undo 63 = .ok (.ireturn, 1) := by decide +kernel
theorem dX7_at_0 : decode cX7_at 0 = .ok (.aload_n 0, 1) := by decide +kernel
theorem dX7_at_1 : decode cX7_at 1 = .ok (.iconst 0, 1) := by decide +kernel
theorem dX7_at_2 : decode cX7_at 2 = .ok (.putfield 41, 3) := by decide +kernel
theorem dX7_at_5 : decode cX7_at 5 = .ok (.iload_n 1, 1) := by decide +kernel
theorem dX7_at_6 : decode cX7_at 6 = .ok (.invokestatic 197, 3) := by decide +kernel
theorem dX7_at_9 : decode cX7_at 9 = .ok (.ifCond .eq 20, 3) := by decide +kernel
theorem dX7_at_12 : decode cX7_at 12 = .ok (.aload_n 0, 1) := by decide +kernel
theorem dX7_at_13 : decode cX7_at 13 = .ok (.iload_n 2, 1) := by decide +kernel
theorem dX7_at_14 : decode cX7_at 14 = .ok (.invokevirtual 200, 3) := by decide +kernel
theorem dX7_at_17 : decode cX7_at 17 = .ok (.ifCond .eq 12, 3) := by decide +kernel
theorem dX7_at_20 : decode cX7_at 20 = .ok (.aload_n 0, 1) := by decide +kernel
theorem dX7_at_21 : decode cX7_at 21 = .ok (.iload_n 1, 1) := by decide +kernel
theorem dX7_at_22 : decode cX7_at 22 = .ok (.iload_n 2, 1) := by decide +kernel
theorem dX7_at_23 : decode cX7_at 23 = .ok (.invokevirtual 170, 3) := by decide +kernel
theorem dX7_at_26 : decode cX7_at 26 = .ok (.goto 5, 3) := by decide +kernel
theorem dX7_at_29 : decode cX7_at 29 = .ok (.ldc 61, 2) := by decide +kernel
theorem dX7_at_31 : decode cX7_at 31 = .ok (.ireturn, 1) := by decide +kernel
theorem dX7_letter_0 : decode cX7_letter 0 = .ok (.aload_n 0, 1) := by decide +kernel
theorem dX7_letter_1 : decode cX7_letter 1 = .ok (.iconst 0, 1) := by decide +kernel
theorem dX7_letter_2 : decode cX7_letter 2 = .ok (.putfield 41, 3) := by decide +kernel
theorem dX7_letter_5 : decode cX7_letter 5 = .ok (.aload_n 0, 1) := by decide +kernel
theorem dX7_letter_6 : decode cX7_letter 6 = .ok (.iload_n 1, 1) := by decide +kernel
theorem dX7_letter_7 : decode cX7_letter 7 = .ok (.invokevirtual 203, 3) := by decide +kernel
theorem dX7_letter_10 : decode cX7_letter 10 = .ok (.ifCond .eq 15, 3) := by decide +kernel
theorem dX7_letter_13 : decode cX7_letter 13 = .ok (.iload_n 2, 1) := by decide +kernel
theorem dX7_letter_14 : decode cX7_letter 14 = .ok (.i2l, 1) := by decide +kernel
theorem dX7_letter_15 : decode cX7_letter 15 = .ok (.lconst 0, 1) := by decide +kernel
theorem dX7_letter_16 : decode cX7_letter 16 = .ok (.ldc2_w 59, 3) := by decide +kernel
theorem dX7_letter_19 : decode cX7_letter 19 = .ok (.invokestatic 51, 3) := by decide +kernel
theorem dX7_letter_22 : decode cX7_letter 22 = .ok (.ifCond .ne 6, 3) := by decide +kernel
theorem dX7_letter_25 : decode cX7_letter 25 = .ok (.ldc 61, 2) := by decide +kernel
theorem dX7_letter_27 : decode cX7_letter 27 = .ok (.ireturn, 1) := by decide +kernel
theorem dX7_letter_28 : decode cX7_letter 28 = .ok (.iload_n 2, 1) := by decide +kernel
theorem dX7_letter_29 : decode cX7_letter 29 = .ok (.ifCond .ne 11, 3) := by decide +kernel
theorem dX7_letter_32 : decode cX7_letter 32 = .ok (.aload_n 0, 1) := by decide +kernel
theorem dX7_letter_33 : decode cX7_letter 33 = .ok (.iload_n 1, 1) := by decide +kernel
theorem dX7_letter_34 : decode cX7_letter 34 = .ok (.invokevirtual 176, 3) := by decide +kernel
theorem dX7_letter_37 : decode cX7_letter 37 = .ok (.goto 24, 3) := by decide +kernel
theorem dX7_letter_40 : decode cX7_letter 40 = .ok (.iload_n 2, 1) := by decide +kernel
theorem dX7_letter_41 : decode cX7_letter 41 = .ok (.iconst 1, 1) := by decide +kernel
theorem dX7_letter_42 : decode cX7_letter 42 = .ok (.if_icmp .ne 14, 3) := by decide +kernel
theorem dX7_letter_45 : decode cX7_letter 45 = .ok (.aload_n 0, 1) := by decide +kernel
theorem dX7_letter_46 : decode cX7_letter 46 = .ok (.iload_n 1, 1) := by decide +kernel
theorem dX7_letter_47 : decode cX7_letter 47 = .ok (.invokevirtual 176, 3) := by decide +kernel
theorem dX7_letter_50 : decode cX7_letter 50 = .ok (.invokestatic 179, 3) := by decide +kernel
theorem dX7_letter_53 : decode cX7_letter 53 = .ok (.goto 8, 3) := by decide +kernel
theorem dX7_letter_56 : decode cX7_letter 56 = .ok (.aload_n 0, 1) := by decide +kernel
theorem dX7_letter_57 : decode cX7_letter 57 = .ok (.iload_n 1, 1) := by decide +kernel
theorem dX7_letter_58 : decode cX7_letter 58 = .ok (.invokevirtual 191, 3) := by decide +kernel
theorem dX7_letter_61 : decode cX7_letter 61 = .ok (.ireturn, 1) := by decide +kernel
theorem dX7_light_0 : decode cX7_light 0 = .ok (.aload_n 0, 1) := by decide +kernel
theorem dX7_light_1 : decode cX7_light 1 = .ok (.iconst 0, 1) := by decide +kernel
theorem dX7_light_2 : decode cX7_light 2 = .ok (.putfield 41, 3) := by decide +kernel
theorem dX7_light_5 : decode cX7_light 5 = .ok (.iload_n 1, 1) := by decide +kernel
theorem dX7_light_6 : decode cX7_light 6 = .ok (.invokestatic 197, 3) := by decide +kernel
theorem dX7_light_9 : decode cX7_light 9 = .ok (.ifCond .eq 23, 3) := by decide +kernel
theorem dX7_light_12 : decode cX7_light 12 = .ok (.aload_n 0, 1) := by decide +kernel
theorem dX7_light_13 : decode cX7_light 13 = .ok (.iload_n 2, 1) := by decide +kernel
theorem dX7_light_14 : decode cX7_light 14 = .ok (.invokevirtual 200, 3) := by decide +kernel
theorem dX7_light_17 : decode cX7_light 17 = .ok (.ifCond .eq 15, 3) := by decide +kernel
theorem dX7_light_20 : decode cX7_light 20 = .ok (.iload_n 3, 1) := by decide +kernel
theorem dX7_light_21 : decode cX7_light 21 = .ok (.i2l, 1) := by decide +kernel
theorem dX7_light_22 : decode cX7_light 22 = .ok (.lconst 0, 1) := by decide +kernel
theorem dX7_light_23 : decode cX7_light 23 = .ok (.ldc2_w 214, 3) := by decide +kernel
theorem dX7_light_26 : decode cX7_light 26 = .ok (.invokestatic 51, 3) := by decide +kernel
theorem dX7_light_29 : decode cX7_light 29 = .ok (.ifCond .ne 6, 3) := by decide +kernel
theorem dX7_light_32 : decode cX7_light 32 = .ok (.ldc 61, 2) := by decide +kernel
theorem dX7_light_34 : decode cX7_light 34 = .ok (.ireturn, 1) := by decide +kernel
theorem dX7_light_35 : decode cX7_light 35 = .ok (.aload_n 0, 1) := by decide +kernel
theorem dX7_light_36 : decode cX7_light 36 = .ok (.aload_n 0, 1) := by decide +kernel
theorem dX7_light_37 : decode cX7_light 37 = .ok (.iload_n 1, 1) := by decide +kernel
theorem dX7_light_38 : decode cX7_light 38 = .ok (.iload_n 2, 1) := by decide +kernel
theorem dX7_light_39 : decode cX7_light 39 = .ok (.invokevirtual 170, 3) := by decide +kernel
theorem dX7_light_42 : decode cX7_light 42 = .ok (.invokevirtual 176, 3) := by decide +kernel
theorem dX7_light_45 : decode cX7_light 45 = .ok (.aload_n 0, 1) := by decide +kernel
theorem dX7_light_46 : decode cX7_light 46 = .ok (.aload_n 0, 1) := by decide +kernel
theorem dX7_light_47 : decode cX7_light 47 = .ok (.iload_n 1, 1) := by decide +kernel
theorem dX7_light_48 : decode cX7_light 48 = .ok (.iload_n 2, 1) := by decide +kernel
theorem dX7_light_49 : decode cX7_light 49 = .ok (.invokevirtual 216, 3) := by decide +kernel
theorem dX7_light_52 : decode cX7_light 52 = .ok (.invokevirtual 191, 3) := by decide +kernel
theorem dX7_light_55 : decode cX7_light 55 = .ok (.ior, 1) := by decide +kernel
theorem dX7_light_56 : decode cX7_light 56 = .ok (.istore 4, 2) := by decide +kernel
theorem dX7_light_58 : decode cX7_light 58 = .ok (.aload_n 0, 1) := by decide +kernel
theorem dX7_light_59 : decode cX7_light 59 = .ok (.iload 4, 2) := by decide +kernel
theorem dX7_light_61 : decode cX7_light 61 = .ok (.invokevirtual 194, 3) := by decide +kernel
theorem dX7_light_64 : decode cX7_light 64 = .ok (.istore 5, 2) := by decide +kernel
theorem dX7_light_66 : decode cX7_light 66 = .ok (.iload_n 3, 1) := by decide +kernel
theorem dX7_light_67 : decode cX7_light 67 = .ok (.ifCond .ne 8, 3) := by decide +kernel
theorem dX7_light_70 : decode cX7_light 70 = .ok (.iload 4, 2) := by decide +kernel
theorem dX7_light_72 : decode cX7_light 72 = .ok (.goto 38, 3) := by decide +kernel
theorem dX7_light_75 : decode cX7_light 75 = .ok (.iload_n 3, 1) := by decide +kernel
theorem dX7_light_76 : decode cX7_light 76 = .ok (.iconst 1, 1) := by decide +kernel
theorem dX7_light_77 : decode cX7_light 77 = .ok (.if_icmp .ne 8, 3) := by decide +kernel
theorem dX7_light_80 : decode cX7_light 80 = .ok (.iload 5, 2) := by decide +kernel
theorem dX7_light_82 : decode cX7_light 82 = .ok (.goto 28, 3) := by decide +kernel
theorem dX7_light_85 : decode cX7_light 85 = .ok (.iload_n 3, 1) := by decide +kernel
theorem dX7_light_86 : decode cX7_light 86 = .ok (.iconst 2, 1) := by decide +kernel
theorem dX7_light_87 : decode cX7_light 87 = .ok (.if_icmp .ne 10, 3) := by decide +kernel
theorem dX7_light_90 : decode cX7_light 90 = .ok (.aload_n 0, 1) := by decide +kernel
theorem dX7_light_91 : decode cX7_light 91 = .ok (.getfield 182, 3) := by decide +kernel
theorem dX7_light_94 : decode cX7_light 94 = .ok (.goto 16, 3) := by decide +kernel
theorem dX7_light_97 : decode cX7_light 97 = .ok (.aload_n 0, 1) := by decide +kernel
theorem dX7_light_98 : decode cX7_light 98 = .ok (.getfield 188, 3) := by decide +kernel
theorem dX7_light_101 : decode cX7_light 101 = .ok (.iconst 1, 1) := by decide +kernel
theorem dX7_light_102 : decode cX7_light 102 = .ok (.if_icmp .le 7, 3) := by decide +kernel
theorem dX7_light_105 : decode cX7_light 105 = .ok (.iconst 1, 1) := by decide +kernel
theorem dX7_light_106 : decode cX7_light 106 = .ok (.goto 4, 3) := by decide +kernel
theorem dX7_light_109 : decode cX7_light 109 = .ok (.iconst 0, 1) := by decide +kernel
theorem dX7_light_110 : decode cX7_light 110 = .ok (.ireturn, 1) := by decide +kernel
theorem dX7_damp_0 : decode cX7_damp 0 = .ok (.aload_n 0, 1) := by decide +kernel
theorem dX7_damp_1 : decode cX7_damp 1 = .ok (.iconst 0, 1) := by decide +kernel
theorem dX7_damp_2 : decode cX7_damp 2 = .ok (.putfield 41, 3) := by decide +kernel
theorem dX7_damp_5 : decode cX7_damp 5 = .ok (.iload_n 1, 1) := by decide +kernel
theorem dX7_damp_6 : decode cX7_damp 6 = .ok (.invokestatic 197, 3) := by decide +kernel
theorem dX7_damp_9 : decode cX7_damp 9 = .ok (.ifCond .eq 34, 3) := by decide +kernel
theorem dX7_damp_12 : decode cX7_damp 12 = .ok (.aload_n 0, 1) := by decide +kernel
theorem dX7_damp_13 : decode cX7_damp 13 = .ok (.iload_n 2, 1) := by decide +kernel
theorem dX7_damp_14 : decode cX7_damp 14 = .ok (.invokevirtual 200, 3) := by decide +kernel
theorem dX7_damp_17 : decode cX7_damp 17 = .ok (.ifCond .eq 26, 3) := by decide +kernel
theorem dX7_damp_20 : decode cX7_damp 20 = .ok (.iload_n 3, 1) := by decide +kernel
theorem dX7_damp_21 : decode cX7_damp 21 = .ok (.i2l, 1) := by decide +kernel
theorem dX7_damp_22 : decode cX7_damp 22 = .ok (.lconst 0, 1) := by decide +kernel
theorem dX7_damp_23 : decode cX7_damp 23 = .ok (.ldc2_w 219, 3) := by decide +kernel
theorem dX7_damp_26 : decode cX7_damp 26 = .ok (.invokestatic 51, 3) := by decide +kernel
theorem dX7_damp_29 : decode cX7_damp 29 = .ok (.ifCond .eq 14, 3) := by decide +kernel
theorem dX7_damp_32 : decode cX7_damp 32 = .ok (.iload 4, 2) := by decide +kernel
theorem dX7_damp_34 : decode cX7_damp 34 = .ok (.i2l, 1) := by decide +kernel
theorem dX7_damp_35 : decode cX7_damp 35 = .ok (.lconst 0, 1) := by decide +kernel
theorem dX7_damp_36 : decode cX7_damp 36 = .ok (.lconst 1, 1) := by decide +kernel
theorem dX7_damp_37 : decode cX7_damp 37 = .ok (.invokestatic 51, 3) := by decide +kernel
theorem dX7_damp_40 : decode cX7_damp 40 = .ok (.ifCond .ne 6, 3) := by decide +kernel
theorem dX7_damp_43 : decode cX7_damp 43 = .ok (.ldc 61, 2) := by decide +kernel
theorem dX7_damp_45 : decode cX7_damp 45 = .ok (.ireturn, 1) := by decide +kernel
theorem dX7_damp_46 : decode cX7_damp 46 = .ok (.aload_n 0, 1) := by decide +kernel
theorem dX7_damp_47 : decode cX7_damp 47 = .ok (.iload_n 1, 1) := by decide +kernel
theorem dX7_damp_48 : decode cX7_damp 48 = .ok (.iload_n 2, 1) := by decide +kernel
theorem dX7_damp_49 : decode cX7_damp 49 = .ok (.invokevirtual 216, 3) := by decide +kernel
theorem dX7_damp_52 : decode cX7_damp 52 = .ok (.istore 5, 2) := by decide +kernel
theorem dX7_damp_54 : decode cX7_damp 54 = .ok (.aload_n 0, 1) := by decide +kernel
theorem dX7_damp_55 : decode cX7_damp 55 = .ok (.iload 5, 2) := by decide +kernel
theorem dX7_damp_57 : decode cX7_damp 57 = .ok (.invokevirtual 173, 3) := by decide +kernel
theorem dX7_damp_60 : decode cX7_damp 60 = .ok (.iconst 2, 1) := by decide +kernel
theorem dX7_damp_61 : decode cX7_damp 61 = .ok (.if_icmp .ne 7, 3) := by decide +kernel
theorem dX7_damp_64 : decode cX7_damp 64 = .ok (.iconst 0, 1) := by decide +kernel
theorem dX7_damp_65 : decode cX7_damp 65 = .ok (.goto 30, 3) := by decide +kernel
theorem dX7_damp_68 : decode cX7_damp 68 = .ok (.aload_n 0, 1) := by decide +kernel
theorem dX7_damp_69 : decode cX7_damp 69 = .ok (.iload 5, 2) := by decide +kernel
theorem dX7_damp_71 : decode cX7_damp 71 = .ok (.invokevirtual 173, 3) := by decide +kernel
theorem dX7_damp_74 : decode cX7_damp 74 = .ok (.iconst 3, 1) := by decide +kernel
theorem dX7_damp_75 : decode cX7_damp 75 = .ok (.if_icmp .ne 14, 3) := by decide +kernel
theorem dX7_damp_78 : decode cX7_damp 78 = .ok (.iconst 2, 1) := by decide +kernel
theorem dX7_damp_79 : decode cX7_damp 79 = .ok (.aload_n 0, 1) := by decide +kernel
theorem dX7_damp_80 : decode cX7_damp 80 = .ok (.getfield 19, 3) := by decide +kernel
theorem dX7_damp_83 : decode cX7_damp 83 = .ok (.iconst 0, 1) := by decide +kernel
theorem dX7_damp_84 : decode cX7_damp 84 = .ok (.iaload, 1) := by decide +kernel
theorem dX7_damp_85 : decode cX7_damp 85 = .ok (.imul, 1) := by decide +kernel
theorem dX7_damp_86 : decode cX7_damp 86 = .ok (.goto 9, 3) := by decide +kernel
theorem dX7_damp_89 : decode cX7_damp 89 = .ok (.aload_n 0, 1) := by decide +kernel
theorem dX7_damp_90 : decode cX7_damp 90 = .ok (.getfield 19, 3) := by decide +kernel
theorem dX7_damp_93 : decode cX7_damp 93 = .ok (.iconst 0, 1) := by decide +kernel
theorem dX7_damp_94 : decode cX7_damp 94 = .ok (.iaload, 1) := by decide +kernel
theorem dX7_damp_95 : decode cX7_damp 95 = .ok (.istore 6, 2) := by decide +kernel
theorem dX7_damp_97 : decode cX7_damp 97 = .ok (.aload_n 0, 1) := by decide +kernel
theorem dX7_damp_98 : decode cX7_damp 98 = .ok (.aload_n 0, 1) := by decide +kernel
theorem dX7_damp_99 : decode cX7_damp 99 = .ok (.iload_n 1, 1) := by decide +kernel
theorem dX7_damp_100 : decode cX7_damp 100 = .ok (.iload_n 2, 1) := by decide +kernel
theorem dX7_damp_101 : decode cX7_damp 101 = .ok (.invokevirtual 170, 3) := by decide +kernel
theorem dX7_damp_104 : decode cX7_damp 104 = .ok (.invokevirtual 176, 3) := by decide +kernel
theorem dX7_damp_107 : decode cX7_damp 107 = .ok (.iload_n 3, 1) := by decide +kernel
theorem dX7_damp_108 : decode cX7_damp 108 = .ok (.iload 6, 2) := by decide +kernel
theorem dX7_damp_110 : decode cX7_damp 110 = .ok (.if_icmp .ge 7, 3) := by decide +kernel
theorem dX7_damp_113 : decode cX7_damp 113 = .ok (.iconst 0, 1) := by decide +kernel
theorem dX7_damp_114 : decode cX7_damp 114 = .ok (.goto 9, 3) := by decide +kernel
theorem dX7_damp_117 : decode cX7_damp 117 = .ok (.aload_n 0, 1) := by decide +kernel
theorem dX7_damp_118 : decode cX7_damp 118 = .ok (.iload 5, 2) := by decide +kernel
theorem dX7_damp_120 : decode cX7_damp 120 = .ok (.invokevirtual 191, 3) := by decide +kernel
theorem dX7_damp_123 : decode cX7_damp 123 = .ok (.ior, 1) := by decide +kernel
theorem dX7_damp_124 : decode cX7_damp 124 = .ok (.istore 7, 2) := by decide +kernel
theorem dX7_damp_126 : decode cX7_damp 126 = .ok (.iload 4, 2) := by decide +kernel
theorem dX7_damp_128 : decode cX7_damp 128 = .ok (.ifCond .ne 8, 3) := by decide +kernel
theorem dX7_damp_131 : decode cX7_damp 131 = .ok (.iload 7, 2) := by decide +kernel
theorem dX7_damp_133 : decode cX7_damp 133 = .ok (.goto 9, 3) := by decide +kernel
theorem dX7_damp_136 : decode cX7_damp 136 = .ok (.aload_n 0, 1) := by decide +kernel
theorem dX7_damp_137 : decode cX7_damp 137 = .ok (.iload 7, 2) := by decide +kernel
theorem dX7_damp_139 : decode cX7_damp 139 = .ok (.invokevirtual 194, 3) := by decide +kernel
theorem dX7_damp_142 : decode cX7_damp 142 = .ok (.ireturn, 1) := by decide +kernel
theorem dX7_read_0 : decode cX7_read 0 = .ok (.aload_n 0, 1) := by decide +kernel
theorem dX7_read_1 : decode cX7_read 1 = .ok (.iconst 0, 1) := by decide +kernel
theorem dX7_read_2 : decode cX7_read 2 = .ok (.putfield 41, 3) := by decide +kernel
theorem dX7_read_5 : decode cX7_read 5 = .ok (.aload_n 0, 1) := by decide +kernel
theorem dX7_read_6 : decode cX7_read 6 = .ok (.invokevirtual 209, 3) := by decide +kernel
theorem dX7_read_9 : decode cX7_read 9 = .ok (.ifCond .ne 6, 3) := by decide +kernel
theorem dX7_read_12 : decode cX7_read 12 = .ok (.ldc 213, 2) := by decide +kernel
theorem dX7_read_14 : decode cX7_read 14 = .ok (.ireturn, 1) := by decide +kernel
theorem dX7_read_15 : decode cX7_read 15 = .ok (.iload_n 1, 1) := by decide +kernel
theorem dX7_read_16 : decode cX7_read 16 = .ok (.i2l, 1) := by decide +kernel
theorem dX7_read_17 : decode cX7_read 17 = .ok (.lconst 0, 1) := by decide +kernel
theorem dX7_read_18 : decode cX7_read 18 = .ok (.ldc2_w 221, 3) := by decide +kernel
theorem dX7_read_21 : decode cX7_read 21 = .ok (.invokestatic 51, 3) := by decide +kernel
theorem dX7_read_24 : decode cX7_read 24 = .ok (.ifCond .eq 15, 3) := by decide +kernel
theorem dX7_read_27 : decode cX7_read 27 = .ok (.iload_n 2, 1) := by decide +kernel
theorem dX7_read_28 : decode cX7_read 28 = .ok (.i2l, 1) := by decide +kernel
theorem dX7_read_29 : decode cX7_read 29 = .ok (.lconst 0, 1) := by decide +kernel
theorem dX7_read_30 : decode cX7_read 30 = .ok (.ldc2_w 59, 3) := by decide +kernel
theorem dX7_read_33 : decode cX7_read 33 = .ok (.invokestatic 51, 3) := by decide +kernel
theorem dX7_read_36 : decode cX7_read 36 = .ok (.ifCond .ne 6, 3) := by decide +kernel
theorem dX7_read_39 : decode cX7_read 39 = .ok (.ldc 61, 2) := by decide +kernel
theorem dX7_read_41 : decode cX7_read 41 = .ok (.ireturn, 1) := by decide +kernel
theorem dX7_read_42 : decode cX7_read 42 = .ok (.aload_n 0, 1) := by decide +kernel
theorem dX7_read_43 : decode cX7_read 43 = .ok (.iload_n 1, 1) := by decide +kernel
theorem dX7_read_44 : decode cX7_read 44 = .ok (.invokevirtual 194, 3) := by decide +kernel
theorem dX7_read_47 : decode cX7_read 47 = .ok (.istore_n 3, 1) := by decide +kernel
theorem dX7_read_48 : decode cX7_read 48 = .ok (.iload_n 2, 1) := by decide +kernel
theorem dX7_read_49 : decode cX7_read 49 = .ok (.ifCond .ne 7, 3) := by decide +kernel
theorem dX7_read_52 : decode cX7_read 52 = .ok (.iload_n 3, 1) := by decide +kernel
theorem dX7_read_53 : decode cX7_read 53 = .ok (.goto 28, 3) := by decide +kernel
theorem dX7_read_56 : decode cX7_read 56 = .ok (.iload_n 2, 1) := by decide +kernel
theorem dX7_read_57 : decode cX7_read 57 = .ok (.iconst 1, 1) := by decide +kernel
theorem dX7_read_58 : decode cX7_read 58 = .ok (.if_icmp .ne 10, 3) := by decide +kernel
theorem dX7_read_61 : decode cX7_read 61 = .ok (.aload_n 0, 1) := by decide +kernel
theorem dX7_read_62 : decode cX7_read 62 = .ok (.getfield 182, 3) := by decide +kernel
theorem dX7_read_65 : decode cX7_read 65 = .ok (.goto 16, 3) := by decide +kernel
theorem dX7_read_68 : decode cX7_read 68 = .ok (.aload_n 0, 1) := by decide +kernel
theorem dX7_read_69 : decode cX7_read 69 = .ok (.getfield 188, 3) := by decide +kernel
theorem dX7_read_72 : decode cX7_read 72 = .ok (.iconst 1, 1) := by decide +kernel
theorem dX7_read_73 : decode cX7_read 73 = .ok (.if_icmp .le 7, 3) := by decide +kernel
theorem dX7_read_76 : decode cX7_read 76 = .ok (.iconst 1, 1) := by decide +kernel
theorem dX7_read_77 : decode cX7_read 77 = .ok (.goto 4, 3) := by decide +kernel
theorem dX7_read_80 : decode cX7_read 80 = .ok (.iconst 0, 1) := by decide +kernel
theorem dX7_read_81 : decode cX7_read 81 = .ok (.ireturn, 1) := by decide +kernel
theorem dX7_hasLetters_0 : decode cX7_hasLetters 0 = .ok (.iconst 1, 1) := by decide +kernel
theorem dX7_hasLetters_1 : decode cX7_hasLetters 1 = .ok (.istore_n 2, 1) := by decide +kernel
theorem dX7_hasLetters_2 : decode cX7_hasLetters 2 = .ok (.iconst 0, 1) := by decide +kernel
theorem dX7_hasLetters_3 : decode cX7_hasLetters 3 = .ok (.istore_n 3, 1) := by decide +kernel
theorem dX7_hasLetters_4 : decode cX7_hasLetters 4 = .ok (.iload_n 3, 1) := by decide +kernel
theorem dX7_hasLetters_5 : decode cX7_hasLetters 5 = .ok (.aload_n 0, 1) := by decide +kernel
theorem dX7_hasLetters_6 : decode cX7_hasLetters 6 = .ok (.getfield 19, 3) := by decide +kernel
theorem dX7_hasLetters_9 : decode cX7_hasLetters 9 = .ok (.iconst 2, 1) := by decide +kernel
theorem dX7_hasLetters_10 : decode cX7_hasLetters 10 = .ok (.iaload, 1) := by decide +kernel
theorem dX7_hasLetters_11 : decode cX7_hasLetters 11 = .ok (.if_icmp .ge 37, 3) := by decide +kernel
theorem dX7_hasLetters_14 : decode cX7_hasLetters 14 = .ok (.iload_n 2, 1) := by decide +kernel
theorem dX7_hasLetters_15 : decode cX7_hasLetters 15 = .ok (.ifCond .eq 25, 3) := by decide +kernel
theorem dX7_hasLetters_18 : decode cX7_hasLetters 18 = .ok (.aload_n 0, 1) := by decide +kernel
theorem dX7_hasLetters_19 : decode cX7_hasLetters 19 = .ok (.aload_n 0, 1) := by decide +kernel
theorem dX7_hasLetters_20 : decode cX7_hasLetters 20 = .ok (.getfield 16, 3) := by decide +kernel
theorem dX7_hasLetters_23 : decode cX7_hasLetters 23 = .ok (.bipush 40, 2) := by decide +kernel
theorem dX7_hasLetters_25 : decode cX7_hasLetters 25 = .ok (.iload_n 1, 1) := by decide +kernel
theorem dX7_hasLetters_26 : decode cX7_hasLetters 26 = .ok (.imul, 1) := by decide +kernel
theorem dX7_hasLetters_27 : decode cX7_hasLetters 27 = .ok (.iload_n 3, 1) := by decide +kernel
theorem dX7_hasLetters_28 : decode cX7_hasLetters 28 = .ok (.iadd, 1) := by decide +kernel
theorem dX7_hasLetters_29 : decode cX7_hasLetters 29 = .ok (.iaload, 1) := by decide +kernel
theorem dX7_hasLetters_30 : decode cX7_hasLetters 30 = .ok (.invokevirtual 203, 3) := by decide +kernel
theorem dX7_hasLetters_33 : decode cX7_hasLetters 33 = .ok (.ifCond .eq 7, 3) := by decide +kernel
theorem dX7_hasLetters_36 : decode cX7_hasLetters 36 = .ok (.iconst 1, 1) := by decide +kernel
theorem dX7_hasLetters_37 : decode cX7_hasLetters 37 = .ok (.goto 4, 3) := by decide +kernel
theorem dX7_hasLetters_40 : decode cX7_hasLetters 40 = .ok (.iconst 0, 1) := by decide +kernel
theorem dX7_hasLetters_41 : decode cX7_hasLetters 41 = .ok (.istore_n 2, 1) := by decide +kernel
theorem dX7_hasLetters_42 : decode cX7_hasLetters 42 = .ok (.iinc 3 1, 3) := by decide +kernel
theorem dX7_hasLetters_45 : decode cX7_hasLetters 45 = .ok (.goto (-41), 3) := by decide +kernel
theorem dX7_hasLetters_48 : decode cX7_hasLetters 48 = .ok (.iload_n 2, 1) := by decide +kernel
theorem dX7_hasLetters_49 : decode cX7_hasLetters 49 = .ok (.ireturn, 1) := by decide +kernel
theorem dX7_barred_0 : decode cX7_barred 0 = .ok (.aload_n 0, 1) := by decide +kernel
theorem dX7_barred_1 : decode cX7_barred 1 = .ok (.invokevirtual 209, 3) := by decide +kernel
theorem dX7_barred_4 : decode cX7_barred 4 = .ok (.ifCond .ne 6, 3) := by decide +kernel
theorem dX7_barred_7 : decode cX7_barred 7 = .ok (.ldc 213, 2) := by decide +kernel
theorem dX7_barred_9 : decode cX7_barred 9 = .ok (.ireturn, 1) := by decide +kernel
theorem dX7_barred_10 : decode cX7_barred 10 = .ok (.iload_n 1, 1) := by decide +kernel
theorem dX7_barred_11 : decode cX7_barred 11 = .ok (.invokestatic 55, 3) := by decide +kernel
theorem dX7_barred_14 : decode cX7_barred 14 = .ok (.ifCond .eq 7, 3) := by decide +kernel
theorem dX7_barred_17 : decode cX7_barred 17 = .ok (.iload_n 2, 1) := by decide +kernel
theorem dX7_barred_18 : decode cX7_barred 18 = .ok (.ifCond .ne 6, 3) := by decide +kernel
theorem dX7_barred_21 : decode cX7_barred 21 = .ok (.ldc 61, 2) := by decide +kernel
theorem dX7_barred_23 : decode cX7_barred 23 = .ok (.ireturn, 1) := by decide +kernel
theorem dX7_barred_24 : decode cX7_barred 24 = .ok (.aload_n 0, 1) := by decide +kernel
theorem dX7_barred_25 : decode cX7_barred 25 = .ok (.getfield 7, 3) := by decide +kernel
theorem dX7_barred_28 : decode cX7_barred 28 = .ok (.iload_n 1, 1) := by decide +kernel
theorem dX7_barred_29 : decode cX7_barred 29 = .ok (.iaload, 1) := by decide +kernel
theorem dX7_barred_30 : decode cX7_barred 30 = .ok (.ifCond .ge 9, 3) := by decide +kernel
theorem dX7_barred_33 : decode cX7_barred 33 = .ok (.aload_n 0, 1) := by decide +kernel
theorem dX7_barred_34 : decode cX7_barred 34 = .ok (.iconst 1, 1) := by decide +kernel
theorem dX7_barred_35 : decode cX7_barred 35 = .ok (.invokevirtual 62, 3) := by decide +kernel
theorem dX7_barred_38 : decode cX7_barred 38 = .ok (.ireturn, 1) := by decide +kernel
theorem dX7_barred_39 : decode cX7_barred 39 = .ok (.aload_n 0, 1) := by decide +kernel
theorem dX7_barred_40 : decode cX7_barred 40 = .ok (.getfield 19, 3) := by decide +kernel
theorem dX7_barred_43 : decode cX7_barred 43 = .ok (.iconst 2, 1) := by decide +kernel
theorem dX7_barred_44 : decode cX7_barred 44 = .ok (.iaload, 1) := by decide +kernel
theorem dX7_barred_45 : decode cX7_barred 45 = .ok (.aload_n 0, 1) := by decide +kernel
theorem dX7_barred_46 : decode cX7_barred 46 = .ok (.getfield 13, 3) := by decide +kernel
theorem dX7_barred_49 : decode cX7_barred 49 = .ok (.iload_n 1, 1) := by decide +kernel
theorem dX7_barred_50 : decode cX7_barred 50 = .ok (.iaload, 1) := by decide +kernel
theorem dX7_barred_51 : decode cX7_barred 51 = .ok (.if_icmp .le 9, 3) := by decide +kernel
theorem dX7_barred_54 : decode cX7_barred 54 = .ok (.aload_n 0, 1) := by decide +kernel
theorem dX7_barred_55 : decode cX7_barred 55 = .ok (.iconst 2, 1) := by decide +kernel
theorem dX7_barred_56 : decode cX7_barred 56 = .ok (.invokevirtual 62, 3) := by decide +kernel
theorem dX7_barred_59 : decode cX7_barred 59 = .ok (.ireturn, 1) := by decide +kernel
theorem dX7_barred_60 : decode cX7_barred 60 = .ok (.aload_n 0, 1) := by decide +kernel
theorem dX7_barred_61 : decode cX7_barred 61 = .ok (.iload_n 1, 1) := by decide +kernel
theorem dX7_barred_62 : decode cX7_barred 62 = .ok (.invokevirtual 223, 3) := by decide +kernel
theorem dX7_barred_65 : decode cX7_barred 65 = .ok (.ifCond .ne 6, 3) := by decide +kernel
theorem dX7_barred_68 : decode cX7_barred 68 = .ok (.ldc 61, 2) := by decide +kernel
theorem dX7_barred_70 : decode cX7_barred 70 = .ok (.ireturn, 1) := by decide +kernel
theorem dX7_barred_71 : decode cX7_barred 71 = .ok (.aload_n 0, 1) := by decide +kernel
theorem dX7_barred_72 : decode cX7_barred 72 = .ok (.iconst 0, 1) := by decide +kernel
theorem dX7_barred_73 : decode cX7_barred 73 = .ok (.putfield 45, 3) := by decide +kernel
theorem dX7_barred_76 : decode cX7_barred 76 = .ok (.iconst 0, 1) := by decide +kernel
theorem dX7_barred_77 : decode cX7_barred 77 = .ok (.ireturn, 1) := by decide +kernel
theorem dX7_behindBy_0 : decode cX7_behindBy 0 = .ok (.iconst 0, 1) := by decide +kernel
theorem dX7_behindBy_1 : decode cX7_behindBy 1 = .ok (.istore_n 3, 1) := by decide +kernel
theorem dX7_behindBy_2 : decode cX7_behindBy 2 = .ok (.iconst 0, 1) := by decide +kernel
theorem dX7_behindBy_3 : decode cX7_behindBy 3 = .ok (.istore 4, 2) := by decide +kernel
theorem dX7_behindBy_5 : decode cX7_behindBy 5 = .ok (.iload 4, 2) := by decide +kernel
theorem dX7_behindBy_7 : decode cX7_behindBy 7 = .ok (.aload_n 0, 1) := by decide +kernel
theorem dX7_behindBy_8 : decode cX7_behindBy 8 = .ok (.getfield 19, 3) := by decide +kernel
theorem dX7_behindBy_11 : decode cX7_behindBy 11 = .ok (.iconst 1, 1) := by decide +kernel
theorem dX7_behindBy_12 : decode cX7_behindBy 12 = .ok (.iaload, 1) := by decide +kernel
theorem dX7_behindBy_13 : decode cX7_behindBy 13 = .ok (.if_icmp .ge 31, 3) := by decide +kernel
theorem dX7_behindBy_16 : decode cX7_behindBy 16 = .ok (.iload_n 3, 1) := by decide +kernel
theorem dX7_behindBy_17 : decode cX7_behindBy 17 = .ok (.aload_n 0, 1) := by decide +kernel
theorem dX7_behindBy_18 : decode cX7_behindBy 18 = .ok (.iload_n 1, 1) := by decide +kernel
theorem dX7_behindBy_19 : decode cX7_behindBy 19 = .ok (.iload 4, 2) := by decide +kernel
theorem dX7_behindBy_21 : decode cX7_behindBy 21 = .ok (.invokevirtual 226, 3) := by decide +kernel
theorem dX7_behindBy_24 : decode cX7_behindBy 24 = .ok (.iload_n 2, 1) := by decide +kernel
theorem dX7_behindBy_25 : decode cX7_behindBy 25 = .ok (.if_icmp .ne 10, 3) := by decide +kernel
theorem dX7_behindBy_28 : decode cX7_behindBy 28 = .ok (.iconst 1, 1) := by decide +kernel
theorem dX7_behindBy_29 : decode cX7_behindBy 29 = .ok (.iload 4, 2) := by decide +kernel
theorem dX7_behindBy_31 : decode cX7_behindBy 31 = .ok (.ishl, 1) := by decide +kernel
theorem dX7_behindBy_32 : decode cX7_behindBy 32 = .ok (.goto 4, 3) := by decide +kernel
theorem dX7_behindBy_35 : decode cX7_behindBy 35 = .ok (.iconst 0, 1) := by decide +kernel
theorem dX7_behindBy_36 : decode cX7_behindBy 36 = .ok (.ior, 1) := by decide +kernel
theorem dX7_behindBy_37 : decode cX7_behindBy 37 = .ok (.istore_n 3, 1) := by decide +kernel
theorem dX7_behindBy_38 : decode cX7_behindBy 38 = .ok (.iinc 4 1, 3) := by decide +kernel
theorem dX7_behindBy_41 : decode cX7_behindBy 41 = .ok (.goto (-36), 3) := by decide +kernel
theorem dX7_behindBy_44 : decode cX7_behindBy 44 = .ok (.iload_n 3, 1) := by decide +kernel
theorem dX7_behindBy_45 : decode cX7_behindBy 45 = .ok (.ireturn, 1) := by decide +kernel
theorem dX7_behind_0 : decode cX7_behind 0 = .ok (.aload_n 0, 1) := by decide +kernel
theorem dX7_behind_1 : decode cX7_behind 1 = .ok (.iconst 0, 1) := by decide +kernel
theorem dX7_behind_2 : decode cX7_behind 2 = .ok (.putfield 41, 3) := by decide +kernel
theorem dX7_behind_5 : decode cX7_behind 5 = .ok (.aload_n 0, 1) := by decide +kernel
theorem dX7_behind_6 : decode cX7_behind 6 = .ok (.iload_n 1, 1) := by decide +kernel
theorem dX7_behind_7 : decode cX7_behind 7 = .ok (.aload_n 0, 1) := by decide +kernel
theorem dX7_behind_8 : decode cX7_behind 8 = .ok (.iload_n 2, 1) := by decide +kernel
theorem dX7_behind_9 : decode cX7_behind 9 = .ok (.invokevirtual 200, 3) := by decide +kernel
theorem dX7_behind_12 : decode cX7_behind 12 = .ok (.invokevirtual 229, 3) := by decide +kernel
theorem dX7_behind_15 : decode cX7_behind 15 = .ok (.istore_n 3, 1) := by decide +kernel
theorem dX7_behind_16 : decode cX7_behind 16 = .ok (.iload_n 3, 1) := by decide +kernel
theorem dX7_behind_17 : decode cX7_behind 17 = .ok (.ifCond .ge 7, 3) := by decide +kernel
theorem dX7_behind_20 : decode cX7_behind 20 = .ok (.iload_n 3, 1) := by decide +kernel
theorem dX7_behind_21 : decode cX7_behind 21 = .ok (.goto 24, 3) := by decide +kernel
theorem dX7_behind_24 : decode cX7_behind 24 = .ok (.aload_n 0, 1) := by decide +kernel
theorem dX7_behind_25 : decode cX7_behind 25 = .ok (.aload_n 0, 1) := by decide +kernel
theorem dX7_behind_26 : decode cX7_behind 26 = .ok (.iconst 0, 1) := by decide +kernel
theorem dX7_behind_27 : decode cX7_behind 27 = .ok (.iload_n 2, 1) := by decide +kernel
theorem dX7_behind_28 : decode cX7_behind 28 = .ok (.invokevirtual 170, 3) := by decide +kernel
theorem dX7_behind_31 : decode cX7_behind 31 = .ok (.aload_n 0, 1) := by decide +kernel
theorem dX7_behind_32 : decode cX7_behind 32 = .ok (.getfield 16, 3) := by decide +kernel
theorem dX7_behind_35 : decode cX7_behind 35 = .ok (.bipush 40, 2) := by decide +kernel
theorem dX7_behind_37 : decode cX7_behind 37 = .ok (.iload_n 1, 1) := by decide +kernel
theorem dX7_behind_38 : decode cX7_behind 38 = .ok (.imul, 1) := by decide +kernel
theorem dX7_behind_39 : decode cX7_behind 39 = .ok (.iload_n 2, 1) := by decide +kernel
theorem dX7_behind_40 : decode cX7_behind 40 = .ok (.iadd, 1) := by decide +kernel
theorem dX7_behind_41 : decode cX7_behind 41 = .ok (.iaload, 1) := by decide +kernel
theorem dX7_behind_42 : decode cX7_behind 42 = .ok (.invokevirtual 233, 3) := by decide +kernel
theorem dX7_behind_45 : decode cX7_behind 45 = .ok (.ireturn, 1) := by decide +kernel
theorem dX7_ways_0 : decode cX7_ways 0 = .ok (.aload_n 0, 1) := by decide +kernel
theorem dX7_ways_1 : decode cX7_ways 1 = .ok (.iconst 0, 1) := by decide +kernel
theorem dX7_ways_2 : decode cX7_ways 2 = .ok (.putfield 41, 3) := by decide +kernel
theorem dX7_ways_5 : decode cX7_ways 5 = .ok (.aload_n 0, 1) := by decide +kernel
theorem dX7_ways_6 : decode cX7_ways 6 = .ok (.iload_n 1, 1) := by decide +kernel
theorem dX7_ways_7 : decode cX7_ways 7 = .ok (.iconst 1, 1) := by decide +kernel
theorem dX7_ways_8 : decode cX7_ways 8 = .ok (.invokevirtual 229, 3) := by decide +kernel
theorem dX7_ways_11 : decode cX7_ways 11 = .ok (.istore_n 2, 1) := by decide +kernel
theorem dX7_ways_12 : decode cX7_ways 12 = .ok (.iload_n 2, 1) := by decide +kernel
theorem dX7_ways_13 : decode cX7_ways 13 = .ok (.ifCond .ge 5, 3) := by decide +kernel
theorem dX7_ways_16 : decode cX7_ways 16 = .ok (.iload_n 2, 1) := by decide +kernel
theorem dX7_ways_17 : decode cX7_ways 17 = .ok (.ireturn, 1) := by decide +kernel
theorem dX7_ways_18 : decode cX7_ways 18 = .ok (.iconst 1, 1) := by decide +kernel
theorem dX7_ways_19 : decode cX7_ways 19 = .ok (.istore_n 3, 1) := by decide +kernel
theorem dX7_ways_20 : decode cX7_ways 20 = .ok (.iconst 0, 1) := by decide +kernel
theorem dX7_ways_21 : decode cX7_ways 21 = .ok (.istore 4, 2) := by decide +kernel
theorem dX7_ways_23 : decode cX7_ways 23 = .ok (.iload 4, 2) := by decide +kernel
theorem dX7_ways_25 : decode cX7_ways 25 = .ok (.aload_n 0, 1) := by decide +kernel
theorem dX7_ways_26 : decode cX7_ways 26 = .ok (.getfield 19, 3) := by decide +kernel
theorem dX7_ways_29 : decode cX7_ways 29 = .ok (.iconst 2, 1) := by decide +kernel
theorem dX7_ways_30 : decode cX7_ways 30 = .ok (.iaload, 1) := by decide +kernel
theorem dX7_ways_31 : decode cX7_ways 31 = .ok (.if_icmp .ge 38, 3) := by decide +kernel
theorem dX7_ways_34 : decode cX7_ways 34 = .ok (.iload_n 3, 1) := by decide +kernel
theorem dX7_ways_35 : decode cX7_ways 35 = .ok (.aload_n 0, 1) := by decide +kernel
theorem dX7_ways_36 : decode cX7_ways 36 = .ok (.aload_n 0, 1) := by decide +kernel
theorem dX7_ways_37 : decode cX7_ways 37 = .ok (.iconst 0, 1) := by decide +kernel
theorem dX7_ways_38 : decode cX7_ways 38 = .ok (.iload 4, 2) := by decide +kernel
theorem dX7_ways_40 : decode cX7_ways 40 = .ok (.invokevirtual 170, 3) := by decide +kernel
theorem dX7_ways_43 : decode cX7_ways 43 = .ok (.aload_n 0, 1) := by decide +kernel
theorem dX7_ways_44 : decode cX7_ways 44 = .ok (.getfield 16, 3) := by decide +kernel
theorem dX7_ways_47 : decode cX7_ways 47 = .ok (.bipush 40, 2) := by decide +kernel
theorem dX7_ways_49 : decode cX7_ways 49 = .ok (.iload_n 1, 1) := by decide +kernel
theorem dX7_ways_50 : decode cX7_ways 50 = .ok (.imul, 1) := by decide +kernel
theorem dX7_ways_51 : decode cX7_ways 51 = .ok (.iload 4, 2) := by decide +kernel
theorem dX7_ways_53 : decode cX7_ways 53 = .ok (.iadd, 1) := by decide +kernel
theorem dX7_ways_54 : decode cX7_ways 54 = .ok (.iaload, 1) := by decide +kernel
theorem dX7_ways_55 : decode cX7_ways 55 = .ok (.invokevirtual 233, 3) := by decide +kernel
theorem dX7_ways_58 : decode cX7_ways 58 = .ok (.invokestatic 185, 3) := by decide +kernel
theorem dX7_ways_61 : decode cX7_ways 61 = .ok (.imul, 1) := by decide +kernel
theorem dX7_ways_62 : decode cX7_ways 62 = .ok (.istore_n 3, 1) := by decide +kernel
theorem dX7_ways_63 : decode cX7_ways 63 = .ok (.iinc 4 1, 3) := by decide +kernel
theorem dX7_ways_66 : decode cX7_ways 66 = .ok (.goto (-43), 3) := by decide +kernel
theorem dX7_ways_69 : decode cX7_ways 69 = .ok (.iload_n 3, 1) := by decide +kernel
theorem dX7_ways_70 : decode cX7_ways 70 = .ok (.ireturn, 1) := by decide +kernel
theorem dX7_anewAt_0 : decode cX7_anewAt 0 = .ok (.iconst 3, 1) := by decide +kernel
theorem dX7_anewAt_1 : decode cX7_anewAt 1 = .ok (.istore_n 3, 1) := by decide +kernel
theorem dX7_anewAt_2 : decode cX7_anewAt 2 = .ok (.iconst 0, 1) := by decide +kernel
theorem dX7_anewAt_3 : decode cX7_anewAt 3 = .ok (.istore 4, 2) := by decide +kernel
theorem dX7_anewAt_5 : decode cX7_anewAt 5 = .ok (.iload 4, 2) := by decide +kernel
theorem dX7_anewAt_7 : decode cX7_anewAt 7 = .ok (.aload_n 0, 1) := by decide +kernel
theorem dX7_anewAt_8 : decode cX7_anewAt 8 = .ok (.getfield 19, 3) := by decide +kernel
theorem dX7_anewAt_11 : decode cX7_anewAt 11 = .ok (.iconst 1, 1) := by decide +kernel
theorem dX7_anewAt_12 : decode cX7_anewAt 12 = .ok (.iaload, 1) := by decide +kernel
theorem dX7_anewAt_13 : decode cX7_anewAt 13 = .ok (.if_icmp .ge 89, 3) := by decide +kernel
theorem dX7_anewAt_16 : decode cX7_anewAt 16 = .ok (.iconst 0, 1) := by decide +kernel
theorem dX7_anewAt_17 : decode cX7_anewAt 17 = .ok (.istore 5, 2) := by decide +kernel
theorem dX7_anewAt_19 : decode cX7_anewAt 19 = .ok (.iload 5, 2) := by decide +kernel
theorem dX7_anewAt_21 : decode cX7_anewAt 21 = .ok (.aload_n 0, 1) := by decide +kernel
theorem dX7_anewAt_22 : decode cX7_anewAt 22 = .ok (.getfield 19, 3) := by decide +kernel
theorem dX7_anewAt_25 : decode cX7_anewAt 25 = .ok (.iconst 1, 1) := by decide +kernel
theorem dX7_anewAt_26 : decode cX7_anewAt 26 = .ok (.iaload, 1) := by decide +kernel
theorem dX7_anewAt_27 : decode cX7_anewAt 27 = .ok (.if_icmp .ge 69, 3) := by decide +kernel
theorem dX7_anewAt_30 : decode cX7_anewAt 30 = .ok (.iload 4, 2) := by decide +kernel
theorem dX7_anewAt_32 : decode cX7_anewAt 32 = .ok (.aload_n 0, 1) := by decide +kernel
theorem dX7_anewAt_33 : decode cX7_anewAt 33 = .ok (.iconst 0, 1) := by decide +kernel
theorem dX7_anewAt_34 : decode cX7_anewAt 34 = .ok (.iload_n 1, 1) := by decide +kernel
theorem dX7_anewAt_35 : decode cX7_anewAt 35 = .ok (.invokevirtual 170, 3) := by decide +kernel
theorem dX7_anewAt_38 : decode cX7_anewAt 38 = .ok (.if_icmp .ne 7, 3) := by decide +kernel
theorem dX7_anewAt_41 : decode cX7_anewAt 41 = .ok (.iconst 0, 1) := by decide +kernel
theorem dX7_anewAt_42 : decode cX7_anewAt 42 = .ok (.goto 4, 3) := by decide +kernel
theorem dX7_anewAt_45 : decode cX7_anewAt 45 = .ok (.iconst 1, 1) := by decide +kernel
theorem dX7_anewAt_46 : decode cX7_anewAt 46 = .ok (.iload 5, 2) := by decide +kernel
theorem dX7_anewAt_48 : decode cX7_anewAt 48 = .ok (.aload_n 0, 1) := by decide +kernel
theorem dX7_anewAt_49 : decode cX7_anewAt 49 = .ok (.iconst 0, 1) := by decide +kernel
theorem dX7_anewAt_50 : decode cX7_anewAt 50 = .ok (.iload_n 1, 1) := by decide +kernel
theorem dX7_anewAt_51 : decode cX7_anewAt 51 = .ok (.invokevirtual 216, 3) := by decide +kernel
theorem dX7_anewAt_54 : decode cX7_anewAt 54 = .ok (.if_icmp .ne 7, 3) := by decide +kernel
theorem dX7_anewAt_57 : decode cX7_anewAt 57 = .ok (.iconst 0, 1) := by decide +kernel
theorem dX7_anewAt_58 : decode cX7_anewAt 58 = .ok (.goto 4, 3) := by decide +kernel
theorem dX7_anewAt_61 : decode cX7_anewAt 61 = .ok (.iconst 1, 1) := by decide +kernel
theorem dX7_anewAt_62 : decode cX7_anewAt 62 = .ok (.iadd, 1) := by decide +kernel
theorem dX7_anewAt_63 : decode cX7_anewAt 63 = .ok (.istore 6, 2) := by decide +kernel
theorem dX7_anewAt_65 : decode cX7_anewAt 65 = .ok (.iload 6, 2) := by decide +kernel
theorem dX7_anewAt_67 : decode cX7_anewAt 67 = .ok (.iload_n 3, 1) := by decide +kernel
theorem dX7_anewAt_68 : decode cX7_anewAt 68 = .ok (.if_icmp .ge 20, 3) := by decide +kernel
theorem dX7_anewAt_71 : decode cX7_anewAt 71 = .ok (.aload_n 0, 1) := by decide +kernel
theorem dX7_anewAt_72 : decode cX7_anewAt 72 = .ok (.iload 4, 2) := by decide +kernel
theorem dX7_anewAt_74 : decode cX7_anewAt 74 = .ok (.iload 5, 2) := by decide +kernel
theorem dX7_anewAt_76 : decode cX7_anewAt 76 = .ok (.invokevirtual 226, 3) := by decide +kernel
theorem dX7_anewAt_79 : decode cX7_anewAt 79 = .ok (.iload_n 2, 1) := by decide +kernel
theorem dX7_anewAt_80 : decode cX7_anewAt 80 = .ok (.if_icmp .ne 8, 3) := by decide +kernel
theorem dX7_anewAt_83 : decode cX7_anewAt 83 = .ok (.iload 6, 2) := by decide +kernel
theorem dX7_anewAt_85 : decode cX7_anewAt 85 = .ok (.goto 4, 3) := by decide +kernel
theorem dX7_anewAt_88 : decode cX7_anewAt 88 = .ok (.iload_n 3, 1) := by decide +kernel
theorem dX7_anewAt_89 : decode cX7_anewAt 89 = .ok (.istore_n 3, 1) := by decide +kernel
theorem dX7_anewAt_90 : decode cX7_anewAt 90 = .ok (.iinc 5 1, 3) := by decide +kernel
theorem dX7_anewAt_93 : decode cX7_anewAt 93 = .ok (.goto (-74), 3) := by decide +kernel
theorem dX7_anewAt_96 : decode cX7_anewAt 96 = .ok (.iinc 4 1, 3) := by decide +kernel
theorem dX7_anewAt_99 : decode cX7_anewAt 99 = .ok (.goto (-94), 3) := by decide +kernel
theorem dX7_anewAt_102 : decode cX7_anewAt 102 = .ok (.iload_n 3, 1) := by decide +kernel
theorem dX7_anewAt_103 : decode cX7_anewAt 103 = .ok (.ireturn, 1) := by decide +kernel
theorem dX7_anew_0 : decode cX7_anew 0 = .ok (.aload_n 0, 1) := by decide +kernel
theorem dX7_anew_1 : decode cX7_anew 1 = .ok (.iconst 0, 1) := by decide +kernel
theorem dX7_anew_2 : decode cX7_anew 2 = .ok (.putfield 41, 3) := by decide +kernel
theorem dX7_anew_5 : decode cX7_anew 5 = .ok (.aload_n 0, 1) := by decide +kernel
theorem dX7_anew_6 : decode cX7_anew 6 = .ok (.iload_n 1, 1) := by decide +kernel
theorem dX7_anew_7 : decode cX7_anew 7 = .ok (.iconst 1, 1) := by decide +kernel
theorem dX7_anew_8 : decode cX7_anew 8 = .ok (.invokevirtual 229, 3) := by decide +kernel
theorem dX7_anew_11 : decode cX7_anew 11 = .ok (.istore_n 2, 1) := by decide +kernel
theorem dX7_anew_12 : decode cX7_anew 12 = .ok (.iload_n 2, 1) := by decide +kernel
theorem dX7_anew_13 : decode cX7_anew 13 = .ok (.ifCond .ge 5, 3) := by decide +kernel
theorem dX7_anew_16 : decode cX7_anew 16 = .ok (.iload_n 2, 1) := by decide +kernel
theorem dX7_anew_17 : decode cX7_anew 17 = .ok (.ireturn, 1) := by decide +kernel
theorem dX7_anew_18 : decode cX7_anew 18 = .ok (.iconst 0, 1) := by decide +kernel
theorem dX7_anew_19 : decode cX7_anew 19 = .ok (.istore_n 3, 1) := by decide +kernel
theorem dX7_anew_20 : decode cX7_anew 20 = .ok (.iconst 1, 1) := by decide +kernel
theorem dX7_anew_21 : decode cX7_anew 21 = .ok (.istore 4, 2) := by decide +kernel
theorem dX7_anew_23 : decode cX7_anew 23 = .ok (.iconst 0, 1) := by decide +kernel
theorem dX7_anew_24 : decode cX7_anew 24 = .ok (.istore 5, 2) := by decide +kernel
theorem dX7_anew_26 : decode cX7_anew 26 = .ok (.iload 5, 2) := by decide +kernel
theorem dX7_anew_28 : decode cX7_anew 28 = .ok (.aload_n 0, 1) := by decide +kernel
theorem dX7_anew_29 : decode cX7_anew 29 = .ok (.getfield 19, 3) := by decide +kernel
theorem dX7_anew_32 : decode cX7_anew 32 = .ok (.iconst 2, 1) := by decide +kernel
theorem dX7_anew_33 : decode cX7_anew 33 = .ok (.iaload, 1) := by decide +kernel
theorem dX7_anew_34 : decode cX7_anew 34 = .ok (.if_icmp .ge 52, 3) := by decide +kernel
theorem dX7_anew_37 : decode cX7_anew 37 = .ok (.aload_n 0, 1) := by decide +kernel
theorem dX7_anew_38 : decode cX7_anew 38 = .ok (.iload 5, 2) := by decide +kernel
theorem dX7_anew_40 : decode cX7_anew 40 = .ok (.aload_n 0, 1) := by decide +kernel
theorem dX7_anew_41 : decode cX7_anew 41 = .ok (.getfield 16, 3) := by decide +kernel
theorem dX7_anew_44 : decode cX7_anew 44 = .ok (.bipush 40, 2) := by decide +kernel
theorem dX7_anew_46 : decode cX7_anew 46 = .ok (.iload_n 1, 1) := by decide +kernel
theorem dX7_anew_47 : decode cX7_anew 47 = .ok (.imul, 1) := by decide +kernel
theorem dX7_anew_48 : decode cX7_anew 48 = .ok (.iload 5, 2) := by decide +kernel
theorem dX7_anew_50 : decode cX7_anew 50 = .ok (.iadd, 1) := by decide +kernel
theorem dX7_anew_51 : decode cX7_anew 51 = .ok (.iaload, 1) := by decide +kernel
theorem dX7_anew_52 : decode cX7_anew 52 = .ok (.invokevirtual 236, 3) := by decide +kernel
theorem dX7_anew_55 : decode cX7_anew 55 = .ok (.istore 6, 2) := by decide +kernel
theorem dX7_anew_57 : decode cX7_anew 57 = .ok (.iload 4, 2) := by decide +kernel
theorem dX7_anew_59 : decode cX7_anew 59 = .ok (.ifCond .eq 13, 3) := by decide +kernel
theorem dX7_anew_62 : decode cX7_anew 62 = .ok (.iload 6, 2) := by decide +kernel
theorem dX7_anew_64 : decode cX7_anew 64 = .ok (.iconst 3, 1) := by decide +kernel
theorem dX7_anew_65 : decode cX7_anew 65 = .ok (.if_icmp .ge 7, 3) := by decide +kernel
theorem dX7_anew_68 : decode cX7_anew 68 = .ok (.iconst 1, 1) := by decide +kernel
theorem dX7_anew_69 : decode cX7_anew 69 = .ok (.goto 4, 3) := by decide +kernel
theorem dX7_anew_72 : decode cX7_anew 72 = .ok (.iconst 0, 1) := by decide +kernel
theorem dX7_anew_73 : decode cX7_anew 73 = .ok (.istore 4, 2) := by decide +kernel
theorem dX7_anew_75 : decode cX7_anew 75 = .ok (.iload_n 3, 1) := by decide +kernel
theorem dX7_anew_76 : decode cX7_anew 76 = .ok (.iload 6, 2) := by decide +kernel
theorem dX7_anew_78 : decode cX7_anew 78 = .ok (.iadd, 1) := by decide +kernel
theorem dX7_anew_79 : decode cX7_anew 79 = .ok (.istore_n 3, 1) := by decide +kernel
theorem dX7_anew_80 : decode cX7_anew 80 = .ok (.iinc 5 1, 3) := by decide +kernel
theorem dX7_anew_83 : decode cX7_anew 83 = .ok (.goto (-57), 3) := by decide +kernel
theorem dX7_anew_86 : decode cX7_anew 86 = .ok (.iload 4, 2) := by decide +kernel
theorem dX7_anew_88 : decode cX7_anew 88 = .ok (.ifCond .eq 7, 3) := by decide +kernel
theorem dX7_anew_91 : decode cX7_anew 91 = .ok (.iload_n 3, 1) := by decide +kernel
theorem dX7_anew_92 : decode cX7_anew 92 = .ok (.goto 5, 3) := by decide +kernel
theorem dX7_anew_95 : decode cX7_anew 95 = .ok (.ldc 77, 2) := by decide +kernel
theorem dX7_anew_97 : decode cX7_anew 97 = .ok (.ireturn, 1) := by decide +kernel
theorem dX7_fits_0 : decode cX7_fits 0 = .ok (.aload_n 0, 1) := by decide +kernel
theorem dX7_fits_1 : decode cX7_fits 1 = .ok (.iconst 0, 1) := by decide +kernel
theorem dX7_fits_2 : decode cX7_fits 2 = .ok (.putfield 41, 3) := by decide +kernel
theorem dX7_fits_5 : decode cX7_fits 5 = .ok (.aload_n 0, 1) := by decide +kernel
theorem dX7_fits_6 : decode cX7_fits 6 = .ok (.iload_n 1, 1) := by decide +kernel
theorem dX7_fits_7 : decode cX7_fits 7 = .ok (.invokevirtual 200, 3) := by decide +kernel
theorem dX7_fits_10 : decode cX7_fits 10 = .ok (.ifCond .eq 15, 3) := by decide +kernel
theorem dX7_fits_13 : decode cX7_fits 13 = .ok (.iload_n 2, 1) := by decide +kernel
theorem dX7_fits_14 : decode cX7_fits 14 = .ok (.i2l, 1) := by decide +kernel
theorem dX7_fits_15 : decode cX7_fits 15 = .ok (.lconst 0, 1) := by decide +kernel
theorem dX7_fits_16 : decode cX7_fits 16 = .ok (.ldc2_w 221, 3) := by decide +kernel
theorem dX7_fits_19 : decode cX7_fits 19 = .ok (.invokestatic 51, 3) := by decide +kernel
theorem dX7_fits_22 : decode cX7_fits 22 = .ok (.ifCond .ne 6, 3) := by decide +kernel
theorem dX7_fits_25 : decode cX7_fits 25 = .ok (.ldc 61, 2) := by decide +kernel
theorem dX7_fits_27 : decode cX7_fits 27 = .ok (.ireturn, 1) := by decide +kernel
theorem dX7_fits_28 : decode cX7_fits 28 = .ok (.iconst 0, 1) := by decide +kernel
theorem dX7_fits_29 : decode cX7_fits 29 = .ok (.istore_n 3, 1) := by decide +kernel
theorem dX7_fits_30 : decode cX7_fits 30 = .ok (.iconst 0, 1) := by decide +kernel
theorem dX7_fits_31 : decode cX7_fits 31 = .ok (.istore 4, 2) := by decide +kernel
theorem dX7_fits_33 : decode cX7_fits 33 = .ok (.iload 4, 2) := by decide +kernel
theorem dX7_fits_35 : decode cX7_fits 35 = .ok (.aload_n 0, 1) := by decide +kernel
theorem dX7_fits_36 : decode cX7_fits 36 = .ok (.getfield 19, 3) := by decide +kernel
theorem dX7_fits_39 : decode cX7_fits 39 = .ok (.iconst 1, 1) := by decide +kernel
theorem dX7_fits_40 : decode cX7_fits 40 = .ok (.iaload, 1) := by decide +kernel
theorem dX7_fits_41 : decode cX7_fits 41 = .ok (.if_icmp .ge 41, 3) := by decide +kernel
theorem dX7_fits_44 : decode cX7_fits 44 = .ok (.iload_n 3, 1) := by decide +kernel
theorem dX7_fits_45 : decode cX7_fits 45 = .ok (.aload_n 0, 1) := by decide +kernel
theorem dX7_fits_46 : decode cX7_fits 46 = .ok (.aload_n 0, 1) := by decide +kernel
theorem dX7_fits_47 : decode cX7_fits 47 = .ok (.iconst 0, 1) := by decide +kernel
theorem dX7_fits_48 : decode cX7_fits 48 = .ok (.iload_n 1, 1) := by decide +kernel
theorem dX7_fits_49 : decode cX7_fits 49 = .ok (.invokevirtual 170, 3) := by decide +kernel
theorem dX7_fits_52 : decode cX7_fits 52 = .ok (.invokevirtual 176, 3) := by decide +kernel
theorem dX7_fits_55 : decode cX7_fits 55 = .ok (.aload_n 0, 1) := by decide +kernel
theorem dX7_fits_56 : decode cX7_fits 56 = .ok (.iload 4, 2) := by decide +kernel
theorem dX7_fits_58 : decode cX7_fits 58 = .ok (.invokevirtual 191, 3) := by decide +kernel
theorem dX7_fits_61 : decode cX7_fits 61 = .ok (.ior, 1) := by decide +kernel
theorem dX7_fits_62 : decode cX7_fits 62 = .ok (.iload_n 2, 1) := by decide +kernel
theorem dX7_fits_63 : decode cX7_fits 63 = .ok (.if_icmp .ne 10, 3) := by decide +kernel
theorem dX7_fits_66 : decode cX7_fits 66 = .ok (.iconst 1, 1) := by decide +kernel
theorem dX7_fits_67 : decode cX7_fits 67 = .ok (.iload 4, 2) := by decide +kernel
theorem dX7_fits_69 : decode cX7_fits 69 = .ok (.ishl, 1) := by decide +kernel
theorem dX7_fits_70 : decode cX7_fits 70 = .ok (.goto 4, 3) := by decide +kernel
theorem dX7_fits_73 : decode cX7_fits 73 = .ok (.iconst 0, 1) := by decide +kernel
theorem dX7_fits_74 : decode cX7_fits 74 = .ok (.ior, 1) := by decide +kernel
theorem dX7_fits_75 : decode cX7_fits 75 = .ok (.istore_n 3, 1) := by decide +kernel
theorem dX7_fits_76 : decode cX7_fits 76 = .ok (.iinc 4 1, 3) := by decide +kernel
theorem dX7_fits_79 : decode cX7_fits 79 = .ok (.goto (-46), 3) := by decide +kernel
theorem dX7_fits_82 : decode cX7_fits 82 = .ok (.iload_n 3, 1) := by decide +kernel
theorem dX7_fits_83 : decode cX7_fits 83 = .ok (.ireturn, 1) := by decide +kernel
theorem dX7_harmOf_0 : decode cX7_harmOf 0 = .ok (.iconst 0, 1) := by decide +kernel
theorem dX7_harmOf_1 : decode cX7_harmOf 1 = .ok (.istore_n 2, 1) := by decide +kernel
theorem dX7_harmOf_2 : decode cX7_harmOf 2 = .ok (.iconst 0, 1) := by decide +kernel
theorem dX7_harmOf_3 : decode cX7_harmOf 3 = .ok (.istore_n 3, 1) := by decide +kernel
theorem dX7_harmOf_4 : decode cX7_harmOf 4 = .ok (.iload_n 3, 1) := by decide +kernel
theorem dX7_harmOf_5 : decode cX7_harmOf 5 = .ok (.aload_n 0, 1) := by decide +kernel
theorem dX7_harmOf_6 : decode cX7_harmOf 6 = .ok (.getfield 19, 3) := by decide +kernel
theorem dX7_harmOf_9 : decode cX7_harmOf 9 = .ok (.iconst 2, 1) := by decide +kernel
theorem dX7_harmOf_10 : decode cX7_harmOf 10 = .ok (.iaload, 1) := by decide +kernel
theorem dX7_harmOf_11 : decode cX7_harmOf 11 = .ok (.if_icmp .ge 56, 3) := by decide +kernel
theorem dX7_harmOf_14 : decode cX7_harmOf 14 = .ok (.aload_n 0, 1) := by decide +kernel
theorem dX7_harmOf_15 : decode cX7_harmOf 15 = .ok (.iconst 0, 1) := by decide +kernel
theorem dX7_harmOf_16 : decode cX7_harmOf 16 = .ok (.aload_n 0, 1) := by decide +kernel
theorem dX7_harmOf_17 : decode cX7_harmOf 17 = .ok (.getfield 19, 3) := by decide +kernel
theorem dX7_harmOf_20 : decode cX7_harmOf 20 = .ok (.iconst 2, 1) := by decide +kernel
theorem dX7_harmOf_21 : decode cX7_harmOf 21 = .ok (.iaload, 1) := by decide +kernel
theorem dX7_harmOf_22 : decode cX7_harmOf 22 = .ok (.iconst 1, 1) := by decide +kernel
theorem dX7_harmOf_23 : decode cX7_harmOf 23 = .ok (.isub, 1) := by decide +kernel
theorem dX7_harmOf_24 : decode cX7_harmOf 24 = .ok (.iload_n 3, 1) := by decide +kernel
theorem dX7_harmOf_25 : decode cX7_harmOf 25 = .ok (.isub, 1) := by decide +kernel
theorem dX7_harmOf_26 : decode cX7_harmOf 26 = .ok (.invokevirtual 170, 3) := by decide +kernel
theorem dX7_harmOf_29 : decode cX7_harmOf 29 = .ok (.istore 4, 2) := by decide +kernel
theorem dX7_harmOf_31 : decode cX7_harmOf 31 = .ok (.iload_n 2, 1) := by decide +kernel
theorem dX7_harmOf_32 : decode cX7_harmOf 32 = .ok (.aload_n 0, 1) := by decide +kernel
theorem dX7_harmOf_33 : decode cX7_harmOf 33 = .ok (.iload 4, 2) := by decide +kernel
theorem dX7_harmOf_35 : decode cX7_harmOf 35 = .ok (.aload_n 0, 1) := by decide +kernel
theorem dX7_harmOf_36 : decode cX7_harmOf 36 = .ok (.getfield 16, 3) := by decide +kernel
theorem dX7_harmOf_39 : decode cX7_harmOf 39 = .ok (.bipush 40, 2) := by decide +kernel
theorem dX7_harmOf_41 : decode cX7_harmOf 41 = .ok (.iload_n 1, 1) := by decide +kernel
theorem dX7_harmOf_42 : decode cX7_harmOf 42 = .ok (.imul, 1) := by decide +kernel
theorem dX7_harmOf_43 : decode cX7_harmOf 43 = .ok (.iload_n 3, 1) := by decide +kernel
theorem dX7_harmOf_44 : decode cX7_harmOf 44 = .ok (.iadd, 1) := by decide +kernel
theorem dX7_harmOf_45 : decode cX7_harmOf 45 = .ok (.iaload, 1) := by decide +kernel
theorem dX7_harmOf_46 : decode cX7_harmOf 46 = .ok (.invokevirtual 226, 3) := by decide +kernel
theorem dX7_harmOf_49 : decode cX7_harmOf 49 = .ok (.iload 4, 2) := by decide +kernel
theorem dX7_harmOf_51 : decode cX7_harmOf 51 = .ok (.if_icmp .eq 7, 3) := by decide +kernel
theorem dX7_harmOf_54 : decode cX7_harmOf 54 = .ok (.iconst 1, 1) := by decide +kernel
theorem dX7_harmOf_55 : decode cX7_harmOf 55 = .ok (.goto 4, 3) := by decide +kernel
theorem dX7_harmOf_58 : decode cX7_harmOf 58 = .ok (.iconst 0, 1) := by decide +kernel
theorem dX7_harmOf_59 : decode cX7_harmOf 59 = .ok (.iadd, 1) := by decide +kernel
theorem dX7_harmOf_60 : decode cX7_harmOf 60 = .ok (.istore_n 2, 1) := by decide +kernel
theorem dX7_harmOf_61 : decode cX7_harmOf 61 = .ok (.iinc 3 1, 3) := by decide +kernel
theorem dX7_harmOf_64 : decode cX7_harmOf 64 = .ok (.goto (-60), 3) := by decide +kernel
theorem dX7_harmOf_67 : decode cX7_harmOf 67 = .ok (.iload_n 2, 1) := by decide +kernel
theorem dX7_harmOf_68 : decode cX7_harmOf 68 = .ok (.ireturn, 1) := by decide +kernel
theorem dX7_harm_0 : decode cX7_harm 0 = .ok (.aload_n 0, 1) := by decide +kernel
theorem dX7_harm_1 : decode cX7_harm 1 = .ok (.iconst 0, 1) := by decide +kernel
theorem dX7_harm_2 : decode cX7_harm 2 = .ok (.putfield 41, 3) := by decide +kernel
theorem dX7_harm_5 : decode cX7_harm 5 = .ok (.aload_n 0, 1) := by decide +kernel
theorem dX7_harm_6 : decode cX7_harm 6 = .ok (.iload_n 1, 1) := by decide +kernel
theorem dX7_harm_7 : decode cX7_harm 7 = .ok (.iconst 1, 1) := by decide +kernel
theorem dX7_harm_8 : decode cX7_harm 8 = .ok (.invokevirtual 229, 3) := by decide +kernel
theorem dX7_harm_11 : decode cX7_harm 11 = .ok (.istore_n 2, 1) := by decide +kernel
theorem dX7_harm_12 : decode cX7_harm 12 = .ok (.iload_n 2, 1) := by decide +kernel
theorem dX7_harm_13 : decode cX7_harm 13 = .ok (.ifCond .ge 7, 3) := by decide +kernel
theorem dX7_harm_16 : decode cX7_harm 16 = .ok (.iload_n 2, 1) := by decide +kernel
theorem dX7_harm_17 : decode cX7_harm 17 = .ok (.goto 8, 3) := by decide +kernel
theorem dX7_harm_20 : decode cX7_harm 20 = .ok (.aload_n 0, 1) := by decide +kernel
theorem dX7_harm_21 : decode cX7_harm 21 = .ok (.iload_n 1, 1) := by decide +kernel
theorem dX7_harm_22 : decode cX7_harm 22 = .ok (.invokevirtual 239, 3) := by decide +kernel
theorem dX7_harm_25 : decode cX7_harm 25 = .ok (.ireturn, 1) := by decide +kernel
theorem dX7_leastHarm_0 : decode cX7_leastHarm 0 = .ok (.aload_n 0, 1) := by decide +kernel
theorem dX7_leastHarm_1 : decode cX7_leastHarm 1 = .ok (.iconst 0, 1) := by decide +kernel
theorem dX7_leastHarm_2 : decode cX7_leastHarm 2 = .ok (.putfield 41, 3) := by decide +kernel
theorem dX7_leastHarm_5 : decode cX7_leastHarm 5 = .ok (.aload_n 0, 1) := by decide +kernel
theorem dX7_leastHarm_6 : decode cX7_leastHarm 6 = .ok (.invokevirtual 209, 3) := by decide +kernel
theorem dX7_leastHarm_9 : decode cX7_leastHarm 9 = .ok (.ifCond .ne 6, 3) := by decide +kernel
theorem dX7_leastHarm_12 : decode cX7_leastHarm 12 = .ok (.ldc 213, 2) := by decide +kernel
theorem dX7_leastHarm_14 : decode cX7_leastHarm 14 = .ok (.ireturn, 1) := by decide +kernel
theorem dX7_leastHarm_15 : decode cX7_leastHarm 15 = .ok (.iload_n 1, 1) := by decide +kernel
theorem dX7_leastHarm_16 : decode cX7_leastHarm 16 = .ok (.i2l, 1) := by decide +kernel
theorem dX7_leastHarm_17 : decode cX7_leastHarm 17 = .ok (.lconst 0, 1) := by decide +kernel
theorem dX7_leastHarm_18 : decode cX7_leastHarm 18 = .ok (.ldc2_w 72, 3) := by decide +kernel
theorem dX7_leastHarm_21 : decode cX7_leastHarm 21 = .ok (.invokestatic 51, 3) := by decide +kernel
theorem dX7_leastHarm_24 : decode cX7_leastHarm 24 = .ok (.ifCond .ne 6, 3) := by decide +kernel
theorem dX7_leastHarm_27 : decode cX7_leastHarm 27 = .ok (.ldc 61, 2) := by decide +kernel
theorem dX7_leastHarm_29 : decode cX7_leastHarm 29 = .ok (.ireturn, 1) := by decide +kernel
theorem dX7_leastHarm_30 : decode cX7_leastHarm 30 = .ok (.ldc 77, 2) := by decide +kernel
theorem dX7_leastHarm_32 : decode cX7_leastHarm 32 = .ok (.istore_n 2, 1) := by decide +kernel
theorem dX7_leastHarm_33 : decode cX7_leastHarm 33 = .ok (.iconst 0, 1) := by decide +kernel
theorem dX7_leastHarm_34 : decode cX7_leastHarm 34 = .ok (.istore_n 3, 1) := by decide +kernel
theorem dX7_leastHarm_35 : decode cX7_leastHarm 35 = .ok (.iload_n 3, 1) := by decide +kernel
theorem dX7_leastHarm_36 : decode cX7_leastHarm 36 = .ok (.bipush 8, 2) := by decide +kernel
theorem dX7_leastHarm_38 : decode cX7_leastHarm 38 = .ok (.if_icmp .ge 87, 3) := by decide +kernel
theorem dX7_leastHarm_41 : decode cX7_leastHarm 41 = .ok (.iload_n 1, 1) := by decide +kernel
theorem dX7_leastHarm_42 : decode cX7_leastHarm 42 = .ok (.iload_n 3, 1) := by decide +kernel
theorem dX7_leastHarm_43 : decode cX7_leastHarm 43 = .ok (.ishr, 1) := by decide +kernel
theorem dX7_leastHarm_44 : decode cX7_leastHarm 44 = .ok (.iconst 1, 1) := by decide +kernel
theorem dX7_leastHarm_45 : decode cX7_leastHarm 45 = .ok (.iand, 1) := by decide +kernel
theorem dX7_leastHarm_46 : decode cX7_leastHarm 46 = .ok (.iconst 1, 1) := by decide +kernel
theorem dX7_leastHarm_47 : decode cX7_leastHarm 47 = .ok (.if_icmp .ne 39, 3) := by decide +kernel
theorem dX7_leastHarm_50 : decode cX7_leastHarm 50 = .ok (.aload_n 0, 1) := by decide +kernel
theorem dX7_leastHarm_51 : decode cX7_leastHarm 51 = .ok (.getfield 7, 3) := by decide +kernel
theorem dX7_leastHarm_54 : decode cX7_leastHarm 54 = .ok (.iload_n 3, 1) := by decide +kernel
theorem dX7_leastHarm_55 : decode cX7_leastHarm 55 = .ok (.iaload, 1) := by decide +kernel
theorem dX7_leastHarm_56 : decode cX7_leastHarm 56 = .ok (.ifCond .lt 30, 3) := by decide +kernel
theorem dX7_leastHarm_59 : decode cX7_leastHarm 59 = .ok (.aload_n 0, 1) := by decide +kernel
theorem dX7_leastHarm_60 : decode cX7_leastHarm 60 = .ok (.getfield 13, 3) := by decide +kernel
theorem dX7_leastHarm_63 : decode cX7_leastHarm 63 = .ok (.iload_n 3, 1) := by decide +kernel
theorem dX7_leastHarm_64 : decode cX7_leastHarm 64 = .ok (.iaload, 1) := by decide +kernel
theorem dX7_leastHarm_65 : decode cX7_leastHarm 65 = .ok (.aload_n 0, 1) := by decide +kernel
theorem dX7_leastHarm_66 : decode cX7_leastHarm 66 = .ok (.getfield 19, 3) := by decide +kernel
theorem dX7_leastHarm_69 : decode cX7_leastHarm 69 = .ok (.iconst 2, 1) := by decide +kernel
theorem dX7_leastHarm_70 : decode cX7_leastHarm 70 = .ok (.iaload, 1) := by decide +kernel
theorem dX7_leastHarm_71 : decode cX7_leastHarm 71 = .ok (.if_icmp .lt 15, 3) := by decide +kernel
theorem dX7_leastHarm_74 : decode cX7_leastHarm 74 = .ok (.aload_n 0, 1) := by decide +kernel
theorem dX7_leastHarm_75 : decode cX7_leastHarm 75 = .ok (.iload_n 3, 1) := by decide +kernel
theorem dX7_leastHarm_76 : decode cX7_leastHarm 76 = .ok (.invokevirtual 223, 3) := by decide +kernel
theorem dX7_leastHarm_79 : decode cX7_leastHarm 79 = .ok (.ifCond .eq 7, 3) := by decide +kernel
theorem dX7_leastHarm_82 : decode cX7_leastHarm 82 = .ok (.iconst 1, 1) := by decide +kernel
theorem dX7_leastHarm_83 : decode cX7_leastHarm 83 = .ok (.goto 4, 3) := by decide +kernel
theorem dX7_leastHarm_86 : decode cX7_leastHarm 86 = .ok (.iconst 0, 1) := by decide +kernel
theorem dX7_leastHarm_87 : decode cX7_leastHarm 87 = .ok (.istore 4, 2) := by decide +kernel
theorem dX7_leastHarm_89 : decode cX7_leastHarm 89 = .ok (.iload 4, 2) := by decide +kernel
theorem dX7_leastHarm_91 : decode cX7_leastHarm 91 = .ok (.ifCond .eq 26, 3) := by decide +kernel
theorem dX7_leastHarm_94 : decode cX7_leastHarm 94 = .ok (.iload_n 2, 1) := by decide +kernel
theorem dX7_leastHarm_95 : decode cX7_leastHarm 95 = .ok (.ldc 77, 2) := by decide +kernel
theorem dX7_leastHarm_97 : decode cX7_leastHarm 97 = .ok (.if_icmp .eq 16, 3) := by decide +kernel
theorem dX7_leastHarm_100 : decode cX7_leastHarm 100 = .ok (.aload_n 0, 1) := by decide +kernel
theorem dX7_leastHarm_101 : decode cX7_leastHarm 101 = .ok (.iload_n 3, 1) := by decide +kernel
theorem dX7_leastHarm_102 : decode cX7_leastHarm 102 = .ok (.invokevirtual 239, 3) := by decide +kernel
theorem dX7_leastHarm_105 : decode cX7_leastHarm 105 = .ok (.aload_n 0, 1) := by decide +kernel
theorem dX7_leastHarm_106 : decode cX7_leastHarm 106 = .ok (.iload_n 2, 1) := by decide +kernel
theorem dX7_leastHarm_107 : decode cX7_leastHarm 107 = .ok (.invokevirtual 239, 3) := by decide +kernel
theorem dX7_leastHarm_110 : decode cX7_leastHarm 110 = .ok (.if_icmp .ge 7, 3) := by decide +kernel
theorem dX7_leastHarm_113 : decode cX7_leastHarm 113 = .ok (.iload_n 3, 1) := by decide +kernel
theorem dX7_leastHarm_114 : decode cX7_leastHarm 114 = .ok (.goto 4, 3) := by decide +kernel
theorem dX7_leastHarm_117 : decode cX7_leastHarm 117 = .ok (.iload_n 2, 1) := by decide +kernel
theorem dX7_leastHarm_118 : decode cX7_leastHarm 118 = .ok (.istore_n 2, 1) := by decide +kernel
